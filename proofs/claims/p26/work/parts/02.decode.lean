theorem dX0_init_0 : decode cX0_init 0 = .ok (.aload_n 0, 1) := by decide +kernel
theorem dX0_init_1 : decode cX0_init 1 = .ok (.invokespecial 3, 3) := by decide +kernel
theorem dX0_init_4 : decode cX0_init 4 = .ok (.aload_n 0, 1) := by decide +kernel
theorem dX0_init_5 : decode cX0_init 5 = .ok (.bipush 24, 2) := by decide +kernel
theorem dX0_init_7 : decode cX0_init 7 = .ok (.newarray .int, 2) := by decide +kernel
theorem dX0_init_9 : decode cX0_init 9 = .ok (.putfield 9, 3) := by decide +kernel
theorem dX0_init_12 : decode cX0_init 12 = .ok (.return_, 1) := by decide +kernel
theorem dX0_put_0 : decode cX0_put 0 = .ok (.aload_n 0, 1) := by decide +kernel
theorem dX0_put_1 : decode cX0_put 1 = .ok (.getfield 15, 3) := by decide +kernel
theorem dX0_put_4 : decode cX0_put 4 = .ok (.bipush 6, 2) := by decide +kernel
theorem dX0_put_6 : decode cX0_put 6 = .ok (.if_icmp .lt 4, 3) := by decide +kernel
theorem dX0_put_9 : decode cX0_put 9 = .ok (.return_, 1) := by decide +kernel
theorem dX0_put_10 : decode cX0_put 10 = .ok (.aload_n 0, 1) := by decide +kernel
theorem dX0_put_11 : decode cX0_put 11 = .ok (.getfield 15, 3) := by decide +kernel
theorem dX0_put_14 : decode cX0_put 14 = .ok (.iconst 4, 1) := by decide +kernel
theorem dX0_put_15 : decode cX0_put 15 = .ok (.imul, 1) := by decide +kernel
theorem dX0_put_16 : decode cX0_put 16 = .ok (.istore 5, 2) := by decide +kernel
theorem dX0_put_18 : decode cX0_put 18 = .ok (.aload_n 0, 1) := by decide +kernel
theorem dX0_put_19 : decode cX0_put 19 = .ok (.getfield 9, 3) := by decide +kernel
theorem dX0_put_22 : decode cX0_put 22 = .ok (.iload 5, 2) := by decide +kernel
theorem dX0_put_24 : decode cX0_put 24 = .ok (.iconst 0, 1) := by decide +kernel
theorem dX0_put_25 : decode cX0_put 25 = .ok (.iadd, 1) := by decide +kernel
theorem dX0_put_26 : decode cX0_put 26 = .ok (.iload_n 1, 1) := by decide +kernel
theorem dX0_put_27 : decode cX0_put 27 = .ok (.iastore, 1) := by decide +kernel
theorem dX0_put_28 : decode cX0_put 28 = .ok (.aload_n 0, 1) := by decide +kernel
theorem dX0_put_29 : decode cX0_put 29 = .ok (.getfield 9, 3) := by decide +kernel
theorem dX0_put_32 : decode cX0_put 32 = .ok (.iload 5, 2) := by decide +kernel
theorem dX0_put_34 : decode cX0_put 34 = .ok (.iconst 1, 1) := by decide +kernel
theorem dX0_put_35 : decode cX0_put 35 = .ok (.iadd, 1) := by decide +kernel
theorem dX0_put_36 : decode cX0_put 36 = .ok (.iload_n 2, 1) := by decide +kernel
theorem dX0_put_37 : decode cX0_put 37 = .ok (.iastore, 1) := by decide +kernel
theorem dX0_put_38 : decode cX0_put 38 = .ok (.aload_n 0, 1) := by decide +kernel
theorem dX0_put_39 : decode cX0_put 39 = .ok (.getfield 9, 3) := by decide +kernel
theorem dX0_put_42 : decode cX0_put 42 = .ok (.iload 5, 2) := by decide +kernel
theorem dX0_put_44 : decode cX0_put 44 = .ok (.iconst 2, 1) := by decide +kernel
theorem dX0_put_45 : decode cX0_put 45 = .ok (.iadd, 1) := by decide +kernel
theorem dX0_put_46 : decode cX0_put 46 = .ok (.iload_n 3, 1) := by decide +kernel
theorem dX0_put_47 : decode cX0_put 47 = .ok (.iastore, 1) := by decide +kernel
theorem dX0_put_48 : decode cX0_put 48 = .ok (.aload_n 0, 1) := by decide +kernel
theorem dX0_put_49 : decode cX0_put 49 = .ok (.getfield 9, 3) := by decide +kernel
theorem dX0_put_52 : decode cX0_put 52 = .ok (.iload 5, 2) := by decide +kernel
theorem dX0_put_54 : decode cX0_put 54 = .ok (.iconst 3, 1) := by decide +kernel
theorem dX0_put_55 : decode cX0_put 55 = .ok (.iadd, 1) := by decide +kernel
theorem dX0_put_56 : decode cX0_put 56 = .ok (.iload 4, 2) := by decide +kernel
theorem dX0_put_58 : decode cX0_put 58 = .ok (.iastore, 1) := by decide +kernel
theorem dX0_put_59 : decode cX0_put 59 = .ok (.aload_n 0, 1) := by decide +kernel
theorem dX0_put_60 : decode cX0_put 60 = .ok (.dup, 1) := by decide +kernel
theorem dX0_put_61 : decode cX0_put 61 = .ok (.getfield 15, 3) := by decide +kernel
theorem dX0_put_64 : decode cX0_put 64 = .ok (.iconst 1, 1) := by decide +kernel
theorem dX0_put_65 : decode cX0_put 65 = .ok (.iadd, 1) := by decide +kernel
theorem dX0_put_66 : decode cX0_put 66 = .ok (.putfield 15, 3) := by decide +kernel
theorem dX0_put_69 : decode cX0_put 69 = .ok (.return_, 1) := by decide +kernel
theorem dX0_tell_0 : decode cX0_tell 0 = .ok (.iload_n 1, 1) := by decide +kernel
theorem dX0_tell_1 : decode cX0_tell 1 = .ok (.iconst 4, 1) := by decide +kernel
theorem dX0_tell_2 : decode cX0_tell 2 = .ok (.imul, 1) := by decide +kernel
theorem dX0_tell_3 : decode cX0_tell 3 = .ok (.iload_n 2, 1) := by decide +kernel
theorem dX0_tell_4 : decode cX0_tell 4 = .ok (.iadd, 1) := by decide +kernel
theorem dX0_tell_5 : decode cX0_tell 5 = .ok (.istore_n 3, 1) := by decide +kernel
theorem dX0_tell_6 : decode cX0_tell 6 = .ok (.iload_n 3, 1) := by decide +kernel
theorem dX0_tell_7 : decode cX0_tell 7 = .ok (.ifCond .lt 21, 3) := by decide +kernel
theorem dX0_tell_10 : decode cX0_tell 10 = .ok (.iload_n 3, 1) := by decide +kernel
theorem dX0_tell_11 : decode cX0_tell 11 = .ok (.aload_n 0, 1) := by decide +kernel
theorem dX0_tell_12 : decode cX0_tell 12 = .ok (.getfield 9, 3) := by decide +kernel
theorem dX0_tell_15 : decode cX0_tell 15 = .ok (.arraylength, 1) := by decide +kernel
theorem dX0_tell_16 : decode cX0_tell 16 = .ok (.if_icmp .ge 12, 3) := by decide +kernel
theorem dX0_tell_19 : decode cX0_tell 19 = .ok (.aload_n 0, 1) := by decide +kernel
theorem dX0_tell_20 : decode cX0_tell 20 = .ok (.getfield 9, 3) := by decide +kernel
theorem dX0_tell_23 : decode cX0_tell 23 = .ok (.iload_n 3, 1) := by decide +kernel
theorem dX0_tell_24 : decode cX0_tell 24 = .ok (.iaload, 1) := by decide +kernel
theorem dX0_tell_25 : decode cX0_tell 25 = .ok (.goto 4, 3) := by decide +kernel
theorem dX0_tell_28 : decode cX0_tell 28 = .ok (.iconst (-1), 1) := by decide +kernel
theorem dX0_tell_29 : decode cX0_tell 29 = .ok (.ireturn, 1) := by decide +kernel
theorem dX0_timesNamed_0 : decode cX0_timesNamed 0 = .ok (.iconst 0, 1) := by decide +kernel
theorem dX0_timesNamed_1 : decode cX0_timesNamed 1 = .ok (.istore_n 2, 1) := by decide +kernel
theorem dX0_timesNamed_2 : decode cX0_timesNamed 2 = .ok (.iconst 0, 1) := by decide +kernel
theorem dX0_timesNamed_3 : decode cX0_timesNamed 3 = .ok (.istore_n 3, 1) := by decide +kernel
theorem dX0_timesNamed_4 : decode cX0_timesNamed 4 = .ok (.iload_n 3, 1) := by decide +kernel
theorem dX0_timesNamed_5 : decode cX0_timesNamed 5 = .ok (.aload_n 0, 1) := by decide +kernel
theorem dX0_timesNamed_6 : decode cX0_timesNamed 6 = .ok (.getfield 15, 3) := by decide +kernel
theorem dX0_timesNamed_9 : decode cX0_timesNamed 9 = .ok (.if_icmp .ge 22, 3) := by decide +kernel
theorem dX0_timesNamed_12 : decode cX0_timesNamed 12 = .ok (.aload_n 0, 1) := by decide +kernel
theorem dX0_timesNamed_13 : decode cX0_timesNamed 13 = .ok (.iload_n 3, 1) := by decide +kernel
theorem dX0_timesNamed_14 : decode cX0_timesNamed 14 = .ok (.iconst 0, 1) := by decide +kernel
theorem dX0_timesNamed_15 : decode cX0_timesNamed 15 = .ok (.invokevirtual 19, 3) := by decide +kernel
theorem dX0_timesNamed_18 : decode cX0_timesNamed 18 = .ok (.iload_n 1, 1) := by decide +kernel
theorem dX0_timesNamed_19 : decode cX0_timesNamed 19 = .ok (.if_icmp .ne 6, 3) := by decide +kernel
theorem dX0_timesNamed_22 : decode cX0_timesNamed 22 = .ok (.iinc 2 1, 3) := by decide +kernel
theorem dX0_timesNamed_25 : decode cX0_timesNamed 25 = .ok (.iinc 3 1, 3) := by decide +kernel
theorem dX0_timesNamed_28 : decode cX0_timesNamed 28 = .ok (.goto (-24), 3) := by decide +kernel
theorem dX0_timesNamed_31 : decode cX0_timesNamed 31 = .ok (.iload_n 2, 1) := by decide +kernel
theorem dX0_timesNamed_32 : decode cX0_timesNamed 32 = .ok (.ireturn, 1) := by decide +kernel
theorem dX0_row_0 : decode cX0_row 0 = .ok (.iconst 0, 1) := by decide +kernel
theorem dX0_row_1 : decode cX0_row 1 = .ok (.istore_n 1, 1) := by decide +kernel
theorem dX0_row_2 : decode cX0_row 2 = .ok (.iconst 0, 1) := by decide +kernel
theorem dX0_row_3 : decode cX0_row 3 = .ok (.istore_n 2, 1) := by decide +kernel
theorem dX0_row_4 : decode cX0_row 4 = .ok (.iload_n 2, 1) := by decide +kernel
theorem dX0_row_5 : decode cX0_row 5 = .ok (.aload_n 0, 1) := by decide +kernel
theorem dX0_row_6 : decode cX0_row 6 = .ok (.getfield 15, 3) := by decide +kernel
theorem dX0_row_9 : decode cX0_row 9 = .ok (.if_icmp .ge 24, 3) := by decide +kernel
theorem dX0_row_12 : decode cX0_row 12 = .ok (.iload_n 1, 1) := by decide +kernel
theorem dX0_row_13 : decode cX0_row 13 = .ok (.aload_n 0, 1) := by decide +kernel
theorem dX0_row_14 : decode cX0_row 14 = .ok (.iload_n 2, 1) := by decide +kernel
theorem dX0_row_15 : decode cX0_row 15 = .ok (.iconst 0, 1) := by decide +kernel
theorem dX0_row_16 : decode cX0_row 16 = .ok (.invokevirtual 19, 3) := by decide +kernel
theorem dX0_row_19 : decode cX0_row 19 = .ok (.iconst 1, 1) := by decide +kernel
theorem dX0_row_20 : decode cX0_row 20 = .ok (.iadd, 1) := by decide +kernel
theorem dX0_row_21 : decode cX0_row 21 = .ok (.iload_n 2, 1) := by decide +kernel
theorem dX0_row_22 : decode cX0_row 22 = .ok (.iconst 4, 1) := by decide +kernel
theorem dX0_row_23 : decode cX0_row 23 = .ok (.imul, 1) := by decide +kernel
theorem dX0_row_24 : decode cX0_row 24 = .ok (.ishl, 1) := by decide +kernel
theorem dX0_row_25 : decode cX0_row 25 = .ok (.ior, 1) := by decide +kernel
theorem dX0_row_26 : decode cX0_row 26 = .ok (.istore_n 1, 1) := by decide +kernel
theorem dX0_row_27 : decode cX0_row 27 = .ok (.iinc 2 1, 3) := by decide +kernel
theorem dX0_row_30 : decode cX0_row 30 = .ok (.goto (-26), 3) := by decide +kernel
theorem dX0_row_33 : decode cX0_row 33 = .ok (.iload_n 1, 1) := by decide +kernel
theorem dX0_row_34 : decode cX0_row 34 = .ok (.ireturn, 1) := by decide +kernel
theorem dX1_init_0 : decode cX1_init 0 = .ok (.aload_n 0, 1) := by decide +kernel
theorem dX1_init_1 : decode cX1_init 1 = .ok (.invokespecial 3, 3) := by decide +kernel
theorem dX1_init_4 : decode cX1_init 4 = .ok (.aload_n 0, 1) := by decide +kernel
theorem dX1_init_5 : decode cX1_init 5 = .ok (.bipush 6, 2) := by decide +kernel
theorem dX1_init_7 : decode cX1_init 7 = .ok (.newarray .int, 2) := by decide +kernel
theorem dX1_init_9 : decode cX1_init 9 = .ok (.putfield 9, 3) := by decide +kernel
theorem dX1_init_12 : decode cX1_init 12 = .ok (.aload_n 0, 1) := by decide +kernel
theorem dX1_init_13 : decode cX1_init 13 = .ok (.bipush 64, 2) := by decide +kernel
theorem dX1_init_15 : decode cX1_init 15 = .ok (.newarray .int, 2) := by decide +kernel
theorem dX1_init_17 : decode cX1_init 17 = .ok (.putfield 15, 3) := by decide +kernel
theorem dX1_init_20 : decode cX1_init 20 = .ok (.aload_n 0, 1) := by decide +kernel
theorem dX1_init_21 : decode cX1_init 21 = .ok (.bipush 64, 2) := by decide +kernel
theorem dX1_init_23 : decode cX1_init 23 = .ok (.newarray .int, 2) := by decide +kernel
theorem dX1_init_25 : decode cX1_init 25 = .ok (.putfield 18, 3) := by decide +kernel
theorem dX1_init_28 : decode cX1_init 28 = .ok (.return_, 1) := by decide +kernel
theorem dX1_lay_0 : decode cX1_lay 0 = .ok (.aload_n 0, 1) := by decide +kernel
theorem dX1_lay_1 : decode cX1_lay 1 = .ok (.aload_n 1, 1) := by decide +kernel
theorem dX1_lay_2 : decode cX1_lay 2 = .ok (.getfield 21, 3) := by decide +kernel
theorem dX1_lay_5 : decode cX1_lay 5 = .ok (.bipush 6, 2) := by decide +kernel
theorem dX1_lay_7 : decode cX1_lay 7 = .ok (.invokestatic 27, 3) := by decide +kernel
theorem dX1_lay_10 : decode cX1_lay 10 = .ok (.putfield 33, 3) := by decide +kernel
theorem dX1_lay_13 : decode cX1_lay 13 = .ok (.aload_n 0, 1) := by decide +kernel
theorem dX1_lay_14 : decode cX1_lay 14 = .ok (.iconst 1, 1) := by decide +kernel
theorem dX1_lay_15 : decode cX1_lay 15 = .ok (.aload_n 0, 1) := by decide +kernel
theorem dX1_lay_16 : decode cX1_lay 16 = .ok (.getfield 33, 3) := by decide +kernel
theorem dX1_lay_19 : decode cX1_lay 19 = .ok (.ishl, 1) := by decide +kernel
theorem dX1_lay_20 : decode cX1_lay 20 = .ok (.putfield 34, 3) := by decide +kernel
theorem dX1_lay_23 : decode cX1_lay 23 = .ok (.iconst 0, 1) := by decide +kernel
theorem dX1_lay_24 : decode cX1_lay 24 = .ok (.istore_n 3, 1) := by decide +kernel
theorem dX1_lay_25 : decode cX1_lay 25 = .ok (.iload_n 3, 1) := by decide +kernel
theorem dX1_lay_26 : decode cX1_lay 26 = .ok (.aload_n 0, 1) := by decide +kernel
theorem dX1_lay_27 : decode cX1_lay 27 = .ok (.getfield 33, 3) := by decide +kernel
theorem dX1_lay_30 : decode cX1_lay 30 = .ok (.if_icmp .ge 21, 3) := by decide +kernel
theorem dX1_lay_33 : decode cX1_lay 33 = .ok (.aload_n 0, 1) := by decide +kernel
theorem dX1_lay_34 : decode cX1_lay 34 = .ok (.getfield 9, 3) := by decide +kernel
theorem dX1_lay_37 : decode cX1_lay 37 = .ok (.iload_n 3, 1) := by decide +kernel
theorem dX1_lay_38 : decode cX1_lay 38 = .ok (.aload_n 1, 1) := by decide +kernel
theorem dX1_lay_39 : decode cX1_lay 39 = .ok (.iload_n 3, 1) := by decide +kernel
theorem dX1_lay_40 : decode cX1_lay 40 = .ok (.iconst 0, 1) := by decide +kernel
theorem dX1_lay_41 : decode cX1_lay 41 = .ok (.invokevirtual 37, 3) := by decide +kernel
theorem dX1_lay_44 : decode cX1_lay 44 = .ok (.iastore, 1) := by decide +kernel
theorem dX1_lay_45 : decode cX1_lay 45 = .ok (.iinc 3 1, 3) := by decide +kernel
theorem dX1_lay_48 : decode cX1_lay 48 = .ok (.goto (-23), 3) := by decide +kernel
theorem dX1_lay_51 : decode cX1_lay 51 = .ok (.aload_n 0, 1) := by decide +kernel
theorem dX1_lay_52 : decode cX1_lay 52 = .ok (.aload_n 2, 1) := by decide +kernel
theorem dX1_lay_53 : decode cX1_lay 53 = .ok (.iconst 0, 1) := by decide +kernel
theorem dX1_lay_54 : decode cX1_lay 54 = .ok (.invokestatic 40, 3) := by decide +kernel
theorem dX1_lay_57 : decode cX1_lay 57 = .ok (.aload_n 0, 1) := by decide +kernel
theorem dX1_lay_58 : decode cX1_lay 58 = .ok (.aload_n 2, 1) := by decide +kernel
theorem dX1_lay_59 : decode cX1_lay 59 = .ok (.invokestatic 44, 3) := by decide +kernel
theorem dX1_lay_62 : decode cX1_lay 62 = .ok (.invokevirtual 48, 3) := by decide +kernel
theorem dX1_lay_65 : decode cX1_lay 65 = .ok (.return_, 1) := by decide +kernel
theorem dX1_choose_0 : decode cX1_choose 0 = .ok (.aload_n 0, 1) := by decide +kernel
theorem dX1_choose_1 : decode cX1_choose 1 = .ok (.ldc 52, 2) := by decide +kernel
theorem dX1_choose_3 : decode cX1_choose 3 = .ok (.putfield 53, 3) := by decide +kernel
theorem dX1_choose_6 : decode cX1_choose 6 = .ok (.aload_n 0, 1) := by decide +kernel
theorem dX1_choose_7 : decode cX1_choose 7 = .ok (.iconst 0, 1) := by decide +kernel
theorem dX1_choose_8 : decode cX1_choose 8 = .ok (.putfield 56, 3) := by decide +kernel
theorem dX1_choose_11 : decode cX1_choose 11 = .ok (.iconst 0, 1) := by decide +kernel
theorem dX1_choose_12 : decode cX1_choose 12 = .ok (.istore_n 2, 1) := by decide +kernel
theorem dX1_choose_13 : decode cX1_choose 13 = .ok (.iload_n 2, 1) := by decide +kernel
theorem dX1_choose_14 : decode cX1_choose 14 = .ok (.aload_n 0, 1) := by decide +kernel
theorem dX1_choose_15 : decode cX1_choose 15 = .ok (.getfield 34, 3) := by decide +kernel
theorem dX1_choose_18 : decode cX1_choose 18 = .ok (.if_icmp .ge 65, 3) := by decide +kernel
theorem dX1_choose_21 : decode cX1_choose 21 = .ok (.aload_n 0, 1) := by decide +kernel
theorem dX1_choose_22 : decode cX1_choose 22 = .ok (.getfield 33, 3) := by decide +kernel
theorem dX1_choose_25 : decode cX1_choose 25 = .ok (.iload_n 2, 1) := by decide +kernel
theorem dX1_choose_26 : decode cX1_choose 26 = .ok (.invokestatic 59, 3) := by decide +kernel
theorem dX1_choose_29 : decode cX1_choose 29 = .ok (.isub, 1) := by decide +kernel
theorem dX1_choose_30 : decode cX1_choose 30 = .ok (.aload_n 1, 1) := by decide +kernel
theorem dX1_choose_31 : decode cX1_choose 31 = .ok (.iload_n 2, 1) := by decide +kernel
theorem dX1_choose_32 : decode cX1_choose 32 = .ok (.iaload, 1) := by decide +kernel
theorem dX1_choose_33 : decode cX1_choose 33 = .ok (.iadd, 1) := by decide +kernel
theorem dX1_choose_34 : decode cX1_choose 34 = .ok (.istore_n 3, 1) := by decide +kernel
theorem dX1_choose_35 : decode cX1_choose 35 = .ok (.iload_n 2, 1) := by decide +kernel
theorem dX1_choose_36 : decode cX1_choose 36 = .ok (.invokestatic 65, 3) := by decide +kernel
theorem dX1_choose_39 : decode cX1_choose 39 = .ok (.istore 4, 2) := by decide +kernel
theorem dX1_choose_41 : decode cX1_choose 41 = .ok (.iload_n 3, 1) := by decide +kernel
theorem dX1_choose_42 : decode cX1_choose 42 = .ok (.aload_n 0, 1) := by decide +kernel
theorem dX1_choose_43 : decode cX1_choose 43 = .ok (.getfield 53, 3) := by decide +kernel
theorem dX1_choose_46 : decode cX1_choose 46 = .ok (.if_icmp .lt 20, 3) := by decide +kernel
theorem dX1_choose_49 : decode cX1_choose 49 = .ok (.iload_n 3, 1) := by decide +kernel
theorem dX1_choose_50 : decode cX1_choose 50 = .ok (.aload_n 0, 1) := by decide +kernel
theorem dX1_choose_51 : decode cX1_choose 51 = .ok (.getfield 53, 3) := by decide +kernel
theorem dX1_choose_54 : decode cX1_choose 54 = .ok (.if_icmp .ne 23, 3) := by decide +kernel
theorem dX1_choose_57 : decode cX1_choose 57 = .ok (.iload 4, 2) := by decide +kernel
theorem dX1_choose_59 : decode cX1_choose 59 = .ok (.aload_n 0, 1) := by decide +kernel
theorem dX1_choose_60 : decode cX1_choose 60 = .ok (.getfield 56, 3) := by decide +kernel
theorem dX1_choose_63 : decode cX1_choose 63 = .ok (.if_icmp .le 14, 3) := by decide +kernel
theorem dX1_choose_66 : decode cX1_choose 66 = .ok (.aload_n 0, 1) := by decide +kernel
theorem dX1_choose_67 : decode cX1_choose 67 = .ok (.iload_n 3, 1) := by decide +kernel
theorem dX1_choose_68 : decode cX1_choose 68 = .ok (.putfield 53, 3) := by decide +kernel
theorem dX1_choose_71 : decode cX1_choose 71 = .ok (.aload_n 0, 1) := by decide +kernel
theorem dX1_choose_72 : decode cX1_choose 72 = .ok (.iload 4, 2) := by decide +kernel
theorem dX1_choose_74 : decode cX1_choose 74 = .ok (.putfield 56, 3) := by decide +kernel
theorem dX1_choose_77 : decode cX1_choose 77 = .ok (.iinc 2 1, 3) := by decide +kernel
theorem dX1_choose_80 : decode cX1_choose 80 = .ok (.goto (-67), 3) := by decide +kernel
theorem dX1_choose_83 : decode cX1_choose 83 = .ok (.return_, 1) := by decide +kernel
theorem dX1_numberOf_0 : decode cX1_numberOf 0 = .ok (.iconst 0, 1) := by decide +kernel
theorem dX1_numberOf_1 : decode cX1_numberOf 1 = .ok (.istore_n 1, 1) := by decide +kernel
theorem dX1_numberOf_2 : decode cX1_numberOf 2 = .ok (.iconst 0, 1) := by decide +kernel
theorem dX1_numberOf_3 : decode cX1_numberOf 3 = .ok (.istore_n 2, 1) := by decide +kernel
theorem dX1_numberOf_4 : decode cX1_numberOf 4 = .ok (.iload_n 2, 1) := by decide +kernel
theorem dX1_numberOf_5 : decode cX1_numberOf 5 = .ok (.bipush 6, 2) := by decide +kernel
theorem dX1_numberOf_7 : decode cX1_numberOf 7 = .ok (.if_icmp .ge 24, 3) := by decide +kernel
theorem dX1_numberOf_10 : decode cX1_numberOf 10 = .ok (.iload_n 0, 1) := by decide +kernel
theorem dX1_numberOf_11 : decode cX1_numberOf 11 = .ok (.iconst 1, 1) := by decide +kernel
theorem dX1_numberOf_12 : decode cX1_numberOf 12 = .ok (.iload_n 2, 1) := by decide +kernel
theorem dX1_numberOf_13 : decode cX1_numberOf 13 = .ok (.ishl, 1) := by decide +kernel
theorem dX1_numberOf_14 : decode cX1_numberOf 14 = .ok (.iand, 1) := by decide +kernel
theorem dX1_numberOf_15 : decode cX1_numberOf 15 = .ok (.ifCond .eq 10, 3) := by decide +kernel
theorem dX1_numberOf_18 : decode cX1_numberOf 18 = .ok (.iload_n 1, 1) := by decide +kernel
theorem dX1_numberOf_19 : decode cX1_numberOf 19 = .ok (.bipush 32, 2) := by decide +kernel
theorem dX1_numberOf_21 : decode cX1_numberOf 21 = .ok (.iload_n 2, 1) := by decide +kernel
theorem dX1_numberOf_22 : decode cX1_numberOf 22 = .ok (.ishr, 1) := by decide +kernel
theorem dX1_numberOf_23 : decode cX1_numberOf 23 = .ok (.iadd, 1) := by decide +kernel
theorem dX1_numberOf_24 : decode cX1_numberOf 24 = .ok (.istore_n 1, 1) := by decide +kernel
theorem dX1_numberOf_25 : decode cX1_numberOf 25 = .ok (.iinc 2 1, 3) := by decide +kernel
theorem dX1_numberOf_28 : decode cX1_numberOf 28 = .ok (.goto (-24), 3) := by decide +kernel
theorem dX1_numberOf_31 : decode cX1_numberOf 31 = .ok (.iload_n 1, 1) := by decide +kernel
theorem dX1_numberOf_32 : decode cX1_numberOf 32 = .ok (.ireturn, 1) := by decide +kernel
theorem dX1_costsOf_0 : decode cX1_costsOf 0 = .ok (.aload_n 0, 1) := by decide +kernel
theorem dX1_costsOf_1 : decode cX1_costsOf 1 = .ok (.getfield 68, 3) := by decide +kernel
theorem dX1_costsOf_4 : decode cX1_costsOf 4 = .ok (.ifnonnull 11, 3) := by decide +kernel
theorem dX1_costsOf_7 : decode cX1_costsOf 7 = .ok (.aload_n 0, 1) := by decide +kernel
theorem dX1_costsOf_8 : decode cX1_costsOf 8 = .ok (.bipush 64, 2) := by decide +kernel
theorem dX1_costsOf_10 : decode cX1_costsOf 10 = .ok (.newarray .int, 2) := by decide +kernel
theorem dX1_costsOf_12 : decode cX1_costsOf 12 = .ok (.putfield 68, 3) := by decide +kernel
theorem dX1_costsOf_15 : decode cX1_costsOf 15 = .ok (.aload_n 0, 1) := by decide +kernel
theorem dX1_costsOf_16 : decode cX1_costsOf 16 = .ok (.getfield 68, 3) := by decide +kernel
theorem dX1_costsOf_19 : decode cX1_costsOf 19 = .ok (.areturn, 1) := by decide +kernel
theorem dX1_weigh_0 : decode cX1_weigh 0 = .ok (.aload_n 1, 1) := by decide +kernel
theorem dX1_weigh_1 : decode cX1_weigh 1 = .ok (.getfield 73, 3) := by decide +kernel
theorem dX1_weigh_4 : decode cX1_weigh 4 = .ok (.arraylength, 1) := by decide +kernel
theorem dX1_weigh_5 : decode cX1_weigh 5 = .ok (.ifCond .eq 9, 3) := by decide +kernel
theorem dX1_weigh_8 : decode cX1_weigh 8 = .ok (.iload_n 2, 1) := by decide +kernel
theorem dX1_weigh_9 : decode cX1_weigh 9 = .ok (.bipush 40, 2) := by decide +kernel
theorem dX1_weigh_11 : decode cX1_weigh 11 = .ok (.if_icmp .le 13, 3) := by decide +kernel
theorem dX1_weigh_14 : decode cX1_weigh 14 = .ok (.aload_n 0, 1) := by decide +kernel
theorem dX1_weigh_15 : decode cX1_weigh 15 = .ok (.aload_n 1, 1) := by decide +kernel
theorem dX1_weigh_16 : decode cX1_weigh 16 = .ok (.invokestatic 44, 3) := by decide +kernel
theorem dX1_weigh_19 : decode cX1_weigh 19 = .ok (.aload_n 1, 1) := by decide +kernel
theorem dX1_weigh_20 : decode cX1_weigh 20 = .ok (.invokevirtual 77, 3) := by decide +kernel
theorem dX1_weigh_23 : decode cX1_weigh 23 = .ok (.return_, 1) := by decide +kernel
theorem dX1_weigh_24 : decode cX1_weigh 24 = .ok (.iconst 0, 1) := by decide +kernel
theorem dX1_weigh_25 : decode cX1_weigh 25 = .ok (.istore_n 3, 1) := by decide +kernel
theorem dX1_weigh_26 : decode cX1_weigh 26 = .ok (.iload_n 3, 1) := by decide +kernel
theorem dX1_weigh_27 : decode cX1_weigh 27 = .ok (.aload_n 1, 1) := by decide +kernel
theorem dX1_weigh_28 : decode cX1_weigh 28 = .ok (.getfield 73, 3) := by decide +kernel
theorem dX1_weigh_31 : decode cX1_weigh 31 = .ok (.arraylength, 1) := by decide +kernel
theorem dX1_weigh_32 : decode cX1_weigh 32 = .ok (.if_icmp .ge 22, 3) := by decide +kernel
theorem dX1_weigh_35 : decode cX1_weigh 35 = .ok (.aload_n 0, 1) := by decide +kernel
theorem dX1_weigh_36 : decode cX1_weigh 36 = .ok (.aload_n 1, 1) := by decide +kernel
theorem dX1_weigh_37 : decode cX1_weigh 37 = .ok (.getfield 73, 3) := by decide +kernel
theorem dX1_weigh_40 : decode cX1_weigh 40 = .ok (.iload_n 3, 1) := by decide +kernel
theorem dX1_weigh_41 : decode cX1_weigh 41 = .ok (.aaload, 1) := by decide +kernel
theorem dX1_weigh_42 : decode cX1_weigh 42 = .ok (.iload_n 2, 1) := by decide +kernel
theorem dX1_weigh_43 : decode cX1_weigh 43 = .ok (.iconst 1, 1) := by decide +kernel
theorem dX1_weigh_44 : decode cX1_weigh 44 = .ok (.iadd, 1) := by decide +kernel
theorem dX1_weigh_45 : decode cX1_weigh 45 = .ok (.invokestatic 40, 3) := by decide +kernel
theorem dX1_weigh_48 : decode cX1_weigh 48 = .ok (.iinc 3 1, 3) := by decide +kernel
theorem dX1_weigh_51 : decode cX1_weigh 51 = .ok (.goto (-25), 3) := by decide +kernel
theorem dX1_weigh_54 : decode cX1_weigh 54 = .ok (.aload_n 0, 1) := by decide +kernel
theorem dX1_weigh_55 : decode cX1_weigh 55 = .ok (.aload_n 1, 1) := by decide +kernel
theorem dX1_weigh_56 : decode cX1_weigh 56 = .ok (.invokestatic 44, 3) := by decide +kernel
theorem dX1_weigh_59 : decode cX1_weigh 59 = .ok (.aload_n 1, 1) := by decide +kernel
theorem dX1_weigh_60 : decode cX1_weigh 60 = .ok (.getfield 81, 3) := by decide +kernel
theorem dX1_weigh_63 : decode cX1_weigh 63 = .ok (.aload_n 1, 1) := by decide +kernel
theorem dX1_weigh_64 : decode cX1_weigh 64 = .ok (.getfield 73, 3) := by decide +kernel
theorem dX1_weigh_67 : decode cX1_weigh 67 = .ok (.invokevirtual 84, 3) := by decide +kernel
theorem dX1_weigh_70 : decode cX1_weigh 70 = .ok (.return_, 1) := by decide +kernel
theorem dX1_weighDeed_0 : decode cX1_weighDeed 0 = .ok (.aload_n 1, 1) := by decide +kernel
theorem dX1_weighDeed_1 : decode cX1_weighDeed 1 = .ok (.ldc 52, 2) := by decide +kernel
theorem dX1_weighDeed_3 : decode cX1_weighDeed 3 = .ok (.invokestatic 88, 3) := by decide +kernel
theorem dX1_weighDeed_6 : decode cX1_weighDeed 6 = .ok (.aload_n 1, 1) := by decide +kernel
theorem dX1_weighDeed_7 : decode cX1_weighDeed 7 = .ok (.iconst 0, 1) := by decide +kernel
theorem dX1_weighDeed_8 : decode cX1_weighDeed 8 = .ok (.aload_n 2, 1) := by decide +kernel
theorem dX1_weighDeed_9 : decode cX1_weighDeed 9 = .ok (.getfield 94, 3) := by decide +kernel
theorem dX1_weighDeed_12 : decode cX1_weighDeed 12 = .ok (.iastore, 1) := by decide +kernel
theorem dX1_weighDeed_13 : decode cX1_weighDeed 13 = .ok (.iconst 0, 1) := by decide +kernel
theorem dX1_weighDeed_14 : decode cX1_weighDeed 14 = .ok (.istore_n 3, 1) := by decide +kernel
theorem dX1_weighDeed_15 : decode cX1_weighDeed 15 = .ok (.iload_n 3, 1) := by decide +kernel
theorem dX1_weighDeed_16 : decode cX1_weighDeed 16 = .ok (.aload_n 0, 1) := by decide +kernel
theorem dX1_weighDeed_17 : decode cX1_weighDeed 17 = .ok (.getfield 33, 3) := by decide +kernel
theorem dX1_weighDeed_20 : decode cX1_weighDeed 20 = .ok (.if_icmp .ge 28, 3) := by decide +kernel
theorem dX1_weighDeed_23 : decode cX1_weighDeed 23 = .ok (.aload_n 0, 1) := by decide +kernel
theorem dX1_weighDeed_24 : decode cX1_weighDeed 24 = .ok (.getfield 9, 3) := by decide +kernel
theorem dX1_weighDeed_27 : decode cX1_weighDeed 27 = .ok (.iload_n 3, 1) := by decide +kernel
theorem dX1_weighDeed_28 : decode cX1_weighDeed 28 = .ok (.iaload, 1) := by decide +kernel
theorem dX1_weighDeed_29 : decode cX1_weighDeed 29 = .ok (.aload_n 2, 1) := by decide +kernel
theorem dX1_weighDeed_30 : decode cX1_weighDeed 30 = .ok (.getfield 97, 3) := by decide +kernel
theorem dX1_weighDeed_33 : decode cX1_weighDeed 33 = .ok (.if_icmp .ne 9, 3) := by decide +kernel
theorem dX1_weighDeed_36 : decode cX1_weighDeed 36 = .ok (.aload_n 1, 1) := by decide +kernel
theorem dX1_weighDeed_37 : decode cX1_weighDeed 37 = .ok (.iconst 1, 1) := by decide +kernel
theorem dX1_weighDeed_38 : decode cX1_weighDeed 38 = .ok (.iload_n 3, 1) := by decide +kernel
theorem dX1_weighDeed_39 : decode cX1_weighDeed 39 = .ok (.ishl, 1) := by decide +kernel
theorem dX1_weighDeed_40 : decode cX1_weighDeed 40 = .ok (.iconst 0, 1) := by decide +kernel
theorem dX1_weighDeed_41 : decode cX1_weighDeed 41 = .ok (.iastore, 1) := by decide +kernel
theorem dX1_weighDeed_42 : decode cX1_weighDeed 42 = .ok (.iinc 3 1, 3) := by decide +kernel
theorem dX1_weighDeed_45 : decode cX1_weighDeed 45 = .ok (.goto (-30), 3) := by decide +kernel
theorem dX1_weighDeed_48 : decode cX1_weighDeed 48 = .ok (.return_, 1) := by decide +kernel
theorem dX1_weighParts_0 : decode cX1_weighParts 0 = .ok (.iconst 0, 1) := by decide +kernel
theorem dX1_weighParts_1 : decode cX1_weighParts 1 = .ok (.istore 4, 2) := by decide +kernel
theorem dX1_weighParts_3 : decode cX1_weighParts 3 = .ok (.iload 4, 2) := by decide +kernel
theorem dX1_weighParts_5 : decode cX1_weighParts 5 = .ok (.aload_n 3, 1) := by decide +kernel
theorem dX1_weighParts_6 : decode cX1_weighParts 6 = .ok (.arraylength, 1) := by decide +kernel
theorem dX1_weighParts_7 : decode cX1_weighParts 7 = .ok (.if_icmp .ge 75, 3) := by decide +kernel
theorem dX1_weighParts_10 : decode cX1_weighParts 10 = .ok (.aload_n 3, 1) := by decide +kernel
theorem dX1_weighParts_11 : decode cX1_weighParts 11 = .ok (.iload 4, 2) := by decide +kernel
theorem dX1_weighParts_13 : decode cX1_weighParts 13 = .ok (.aaload, 1) := by decide +kernel
theorem dX1_weighParts_14 : decode cX1_weighParts 14 = .ok (.invokestatic 44, 3) := by decide +kernel
theorem dX1_weighParts_17 : decode cX1_weighParts 17 = .ok (.astore 5, 2) := by decide +kernel
theorem dX1_weighParts_19 : decode cX1_weighParts 19 = .ok (.iload 4, 2) := by decide +kernel
theorem dX1_weighParts_21 : decode cX1_weighParts 21 = .ok (.ifCond .ne 13, 3) := by decide +kernel
theorem dX1_weighParts_24 : decode cX1_weighParts 24 = .ok (.aload_n 0, 1) := by decide +kernel
theorem dX1_weighParts_25 : decode cX1_weighParts 25 = .ok (.aload 5, 2) := by decide +kernel
theorem dX1_weighParts_27 : decode cX1_weighParts 27 = .ok (.aload_n 1, 1) := by decide +kernel
theorem dX1_weighParts_28 : decode cX1_weighParts 28 = .ok (.invokevirtual 100, 3) := by decide +kernel
theorem dX1_weighParts_31 : decode cX1_weighParts 31 = .ok (.goto 45, 3) := by decide +kernel
theorem dX1_weighParts_34 : decode cX1_weighParts 34 = .ok (.iload_n 2, 1) := by decide +kernel
theorem dX1_weighParts_35 : decode cX1_weighParts 35 = .ok (.iconst 2, 1) := by decide +kernel
theorem dX1_weighParts_36 : decode cX1_weighParts 36 = .ok (.if_icmp .ne 13, 3) := by decide +kernel
theorem dX1_weighParts_39 : decode cX1_weighParts 39 = .ok (.aload_n 0, 1) := by decide +kernel
theorem dX1_weighParts_40 : decode cX1_weighParts 40 = .ok (.aload_n 1, 1) := by decide +kernel
theorem dX1_weighParts_41 : decode cX1_weighParts 41 = .ok (.aload 5, 2) := by decide +kernel
theorem dX1_weighParts_43 : decode cX1_weighParts 43 = .ok (.invokevirtual 104, 3) := by decide +kernel
theorem dX1_weighParts_46 : decode cX1_weighParts 46 = .ok (.goto 30, 3) := by decide +kernel
theorem dX1_weighParts_49 : decode cX1_weighParts 49 = .ok (.iload_n 2, 1) := by decide +kernel
theorem dX1_weighParts_50 : decode cX1_weighParts 50 = .ok (.iconst 3, 1) := by decide +kernel
theorem dX1_weighParts_51 : decode cX1_weighParts 51 = .ok (.if_icmp .ne 13, 3) := by decide +kernel
theorem dX1_weighParts_54 : decode cX1_weighParts 54 = .ok (.aload_n 0, 1) := by decide +kernel
theorem dX1_weighParts_55 : decode cX1_weighParts 55 = .ok (.aload_n 1, 1) := by decide +kernel
theorem dX1_weighParts_56 : decode cX1_weighParts 56 = .ok (.aload 5, 2) := by decide +kernel
theorem dX1_weighParts_58 : decode cX1_weighParts 58 = .ok (.invokevirtual 107, 3) := by decide +kernel
theorem dX1_weighParts_61 : decode cX1_weighParts 61 = .ok (.goto 15, 3) := by decide +kernel
theorem dX1_weighParts_64 : decode cX1_weighParts 64 = .ok (.iload_n 2, 1) := by decide +kernel
theorem dX1_weighParts_65 : decode cX1_weighParts 65 = .ok (.iconst 4, 1) := by decide +kernel
theorem dX1_weighParts_66 : decode cX1_weighParts 66 = .ok (.if_icmp .ne 10, 3) := by decide +kernel
theorem dX1_weighParts_69 : decode cX1_weighParts 69 = .ok (.aload_n 0, 1) := by decide +kernel
theorem dX1_weighParts_70 : decode cX1_weighParts 70 = .ok (.aload_n 1, 1) := by decide +kernel
theorem dX1_weighParts_71 : decode cX1_weighParts 71 = .ok (.aload 5, 2) := by decide +kernel
theorem dX1_weighParts_73 : decode cX1_weighParts 73 = .ok (.invokevirtual 110, 3) := by decide +kernel
theorem dX1_weighParts_76 : decode cX1_weighParts 76 = .ok (.iinc 4 1, 3) := by decide +kernel
theorem dX1_weighParts_79 : decode cX1_weighParts 79 = .ok (.goto (-76), 3) := by decide +kernel
theorem dX1_weighParts_82 : decode cX1_weighParts 82 = .ok (.iload_n 2, 1) := by decide +kernel
theorem dX1_weighParts_83 : decode cX1_weighParts 83 = .ok (.iconst 5, 1) := by decide +kernel
theorem dX1_weighParts_84 : decode cX1_weighParts 84 = .ok (.if_icmp .ne 9, 3) := by decide +kernel
theorem dX1_weighParts_87 : decode cX1_weighParts 87 = .ok (.aload_n 0, 1) := by decide +kernel
theorem dX1_weighParts_88 : decode cX1_weighParts 88 = .ok (.aload_n 1, 1) := by decide +kernel
theorem dX1_weighParts_89 : decode cX1_weighParts 89 = .ok (.aload_n 3, 1) := by decide +kernel
theorem dX1_weighParts_90 : decode cX1_weighParts 90 = .ok (.invokevirtual 113, 3) := by decide +kernel
theorem dX1_weighParts_93 : decode cX1_weighParts 93 = .ok (.return_, 1) := by decide +kernel
theorem dX1_weighRounds_0 : decode cX1_weighRounds 0 = .ok (.aload_n 0, 1) := by decide +kernel
theorem dX1_weighRounds_1 : decode cX1_weighRounds 1 = .ok (.getfield 15, 3) := by decide +kernel
theorem dX1_weighRounds_4 : decode cX1_weighRounds 4 = .ok (.ldc 52, 2) := by decide +kernel
theorem dX1_weighRounds_6 : decode cX1_weighRounds 6 = .ok (.invokestatic 88, 3) := by decide +kernel
theorem dX1_weighRounds_9 : decode cX1_weighRounds 9 = .ok (.iconst 1, 1) := by decide +kernel
theorem dX1_weighRounds_10 : decode cX1_weighRounds 10 = .ok (.istore_n 3, 1) := by decide +kernel
theorem dX1_weighRounds_11 : decode cX1_weighRounds 11 = .ok (.iload_n 3, 1) := by decide +kernel
theorem dX1_weighRounds_12 : decode cX1_weighRounds 12 = .ok (.aload_n 2, 1) := by decide +kernel
theorem dX1_weighRounds_13 : decode cX1_weighRounds 13 = .ok (.arraylength, 1) := by decide +kernel
theorem dX1_weighRounds_14 : decode cX1_weighRounds 14 = .ok (.if_icmp .ge 23, 3) := by decide +kernel
theorem dX1_weighRounds_17 : decode cX1_weighRounds 17 = .ok (.aload_n 0, 1) := by decide +kernel
theorem dX1_weighRounds_18 : decode cX1_weighRounds 18 = .ok (.aload_n 0, 1) := by decide +kernel
theorem dX1_weighRounds_19 : decode cX1_weighRounds 19 = .ok (.getfield 15, 3) := by decide +kernel
theorem dX1_weighRounds_22 : decode cX1_weighRounds 22 = .ok (.aload_n 2, 1) := by decide +kernel
theorem dX1_weighRounds_23 : decode cX1_weighRounds 23 = .ok (.iload_n 3, 1) := by decide +kernel
theorem dX1_weighRounds_24 : decode cX1_weighRounds 24 = .ok (.aaload, 1) := by decide +kernel
theorem dX1_weighRounds_25 : decode cX1_weighRounds 25 = .ok (.invokestatic 44, 3) := by decide +kernel
theorem dX1_weighRounds_28 : decode cX1_weighRounds 28 = .ok (.invokevirtual 107, 3) := by decide +kernel
theorem dX1_weighRounds_31 : decode cX1_weighRounds 31 = .ok (.iinc 3 1, 3) := by decide +kernel
theorem dX1_weighRounds_34 : decode cX1_weighRounds 34 = .ok (.goto (-23), 3) := by decide +kernel
theorem dX1_weighRounds_37 : decode cX1_weighRounds 37 = .ok (.aload_n 0, 1) := by decide +kernel
theorem dX1_weighRounds_38 : decode cX1_weighRounds 38 = .ok (.aload_n 0, 1) := by decide +kernel
theorem dX1_weighRounds_39 : decode cX1_weighRounds 39 = .ok (.getfield 15, 3) := by decide +kernel
theorem dX1_weighRounds_42 : decode cX1_weighRounds 42 = .ok (.aload_n 0, 1) := by decide +kernel
theorem dX1_weighRounds_43 : decode cX1_weighRounds 43 = .ok (.getfield 18, 3) := by decide +kernel
theorem dX1_weighRounds_46 : decode cX1_weighRounds 46 = .ok (.invokevirtual 100, 3) := by decide +kernel
theorem dX1_weighRounds_49 : decode cX1_weighRounds 49 = .ok (.aload_n 0, 1) := by decide +kernel
theorem dX1_weighRounds_50 : decode cX1_weighRounds 50 = .ok (.aload_n 0, 1) := by decide +kernel
theorem dX1_weighRounds_51 : decode cX1_weighRounds 51 = .ok (.getfield 18, 3) := by decide +kernel
theorem dX1_weighRounds_54 : decode cX1_weighRounds 54 = .ok (.aload_n 1, 1) := by decide +kernel
theorem dX1_weighRounds_55 : decode cX1_weighRounds 55 = .ok (.invokevirtual 104, 3) := by decide +kernel
theorem dX1_weighRounds_58 : decode cX1_weighRounds 58 = .ok (.iconst 1, 1) := by decide +kernel
theorem dX1_weighRounds_59 : decode cX1_weighRounds 59 = .ok (.istore_n 3, 1) := by decide +kernel
theorem dX1_weighRounds_60 : decode cX1_weighRounds 60 = .ok (.iload_n 3, 1) := by decide +kernel
theorem dX1_weighRounds_61 : decode cX1_weighRounds 61 = .ok (.aload_n 0, 1) := by decide +kernel
theorem dX1_weighRounds_62 : decode cX1_weighRounds 62 = .ok (.getfield 34, 3) := by decide +kernel
theorem dX1_weighRounds_65 : decode cX1_weighRounds 65 = .ok (.if_icmp .ge 66, 3) := by decide +kernel
theorem dX1_weighRounds_68 : decode cX1_weighRounds 68 = .ok (.iconst 0, 1) := by decide +kernel
theorem dX1_weighRounds_69 : decode cX1_weighRounds 69 = .ok (.istore 4, 2) := by decide +kernel
theorem dX1_weighRounds_71 : decode cX1_weighRounds 71 = .ok (.iload 4, 2) := by decide +kernel
theorem dX1_weighRounds_73 : decode cX1_weighRounds 73 = .ok (.aload_n 0, 1) := by decide +kernel
theorem dX1_weighRounds_74 : decode cX1_weighRounds 74 = .ok (.getfield 33, 3) := by decide +kernel
theorem dX1_weighRounds_77 : decode cX1_weighRounds 77 = .ok (.if_icmp .ge 48, 3) := by decide +kernel
theorem dX1_weighRounds_80 : decode cX1_weighRounds 80 = .ok (.iload_n 3, 1) := by decide +kernel
theorem dX1_weighRounds_81 : decode cX1_weighRounds 81 = .ok (.iconst 1, 1) := by decide +kernel
theorem dX1_weighRounds_82 : decode cX1_weighRounds 82 = .ok (.iload 4, 2) := by decide +kernel
theorem dX1_weighRounds_84 : decode cX1_weighRounds 84 = .ok (.ishl, 1) := by decide +kernel
theorem dX1_weighRounds_85 : decode cX1_weighRounds 85 = .ok (.iconst 1, 1) := by decide +kernel
theorem dX1_weighRounds_86 : decode cX1_weighRounds 86 = .ok (.isub, 1) := by decide +kernel
theorem dX1_weighRounds_87 : decode cX1_weighRounds 87 = .ok (.iand, 1) := by decide +kernel
theorem dX1_weighRounds_88 : decode cX1_weighRounds 88 = .ok (.istore 5, 2) := by decide +kernel
theorem dX1_weighRounds_90 : decode cX1_weighRounds 90 = .ok (.iload 5, 2) := by decide +kernel
theorem dX1_weighRounds_92 : decode cX1_weighRounds 92 = .ok (.iload_n 3, 1) := by decide +kernel
theorem dX1_weighRounds_93 : decode cX1_weighRounds 93 = .ok (.if_icmp .eq 26, 3) := by decide +kernel
theorem dX1_weighRounds_96 : decode cX1_weighRounds 96 = .ok (.aload_n 1, 1) := by decide +kernel
theorem dX1_weighRounds_97 : decode cX1_weighRounds 97 = .ok (.iload_n 3, 1) := by decide +kernel
theorem dX1_weighRounds_98 : decode cX1_weighRounds 98 = .ok (.aload_n 1, 1) := by decide +kernel
theorem dX1_weighRounds_99 : decode cX1_weighRounds 99 = .ok (.iload_n 3, 1) := by decide +kernel
theorem dX1_weighRounds_100 : decode cX1_weighRounds 100 = .ok (.iaload, 1) := by decide +kernel
theorem dX1_weighRounds_101 : decode cX1_weighRounds 101 = .ok (.aload_n 1, 1) := by decide +kernel
theorem dX1_weighRounds_102 : decode cX1_weighRounds 102 = .ok (.iload 5, 2) := by decide +kernel
theorem dX1_weighRounds_104 : decode cX1_weighRounds 104 = .ok (.iaload, 1) := by decide +kernel
theorem dX1_weighRounds_105 : decode cX1_weighRounds 105 = .ok (.aload_n 0, 1) := by decide +kernel
theorem dX1_weighRounds_106 : decode cX1_weighRounds 106 = .ok (.getfield 18, 3) := by decide +kernel
theorem dX1_weighRounds_109 : decode cX1_weighRounds 109 = .ok (.iload_n 3, 1) := by decide +kernel
theorem dX1_weighRounds_110 : decode cX1_weighRounds 110 = .ok (.iload 5, 2) := by decide +kernel
theorem dX1_weighRounds_112 : decode cX1_weighRounds 112 = .ok (.ixor, 1) := by decide +kernel
theorem dX1_weighRounds_113 : decode cX1_weighRounds 113 = .ok (.iaload, 1) := by decide +kernel
theorem dX1_weighRounds_114 : decode cX1_weighRounds 114 = .ok (.iadd, 1) := by decide +kernel
theorem dX1_weighRounds_115 : decode cX1_weighRounds 115 = .ok (.invokestatic 27, 3) := by decide +kernel
theorem dX1_weighRounds_118 : decode cX1_weighRounds 118 = .ok (.iastore, 1) := by decide +kernel
theorem dX1_weighRounds_119 : decode cX1_weighRounds 119 = .ok (.iinc 4 1, 3) := by decide +kernel
theorem dX1_weighRounds_122 : decode cX1_weighRounds 122 = .ok (.goto (-51), 3) := by decide +kernel
theorem dX1_weighRounds_125 : decode cX1_weighRounds 125 = .ok (.iinc 3 1, 3) := by decide +kernel
theorem dX1_weighRounds_128 : decode cX1_weighRounds 128 = .ok (.goto (-68), 3) := by decide +kernel
theorem dX1_weighRounds_131 : decode cX1_weighRounds 131 = .ok (.return_, 1) := by decide +kernel
theorem dX1_inRow_0 : decode cX1_inRow 0 = .ok (.aload_n 0, 1) := by decide +kernel
theorem dX1_inRow_1 : decode cX1_inRow 1 = .ok (.getfield 34, 3) := by decide +kernel
theorem dX1_inRow_4 : decode cX1_inRow 4 = .ok (.iconst 1, 1) := by decide +kernel
theorem dX1_inRow_5 : decode cX1_inRow 5 = .ok (.isub, 1) := by decide +kernel
theorem dX1_inRow_6 : decode cX1_inRow 6 = .ok (.istore_n 3, 1) := by decide +kernel
theorem dX1_inRow_7 : decode cX1_inRow 7 = .ok (.iload_n 3, 1) := by decide +kernel
theorem dX1_inRow_8 : decode cX1_inRow 8 = .ok (.ifCond .lt 64, 3) := by decide +kernel
theorem dX1_inRow_11 : decode cX1_inRow 11 = .ok (.ldc 52, 2) := by decide +kernel
theorem dX1_inRow_13 : decode cX1_inRow 13 = .ok (.istore 4, 2) := by decide +kernel
theorem dX1_inRow_15 : decode cX1_inRow 15 = .ok (.iconst 0, 1) := by decide +kernel
theorem dX1_inRow_16 : decode cX1_inRow 16 = .ok (.istore 5, 2) := by decide +kernel
theorem dX1_inRow_18 : decode cX1_inRow 18 = .ok (.iload 5, 2) := by decide +kernel
theorem dX1_inRow_20 : decode cX1_inRow 20 = .ok (.aload_n 0, 1) := by decide +kernel
theorem dX1_inRow_21 : decode cX1_inRow 21 = .ok (.getfield 33, 3) := by decide +kernel
theorem dX1_inRow_24 : decode cX1_inRow 24 = .ok (.if_icmp .gt 37, 3) := by decide +kernel
theorem dX1_inRow_27 : decode cX1_inRow 27 = .ok (.iload_n 3, 1) := by decide +kernel
theorem dX1_inRow_28 : decode cX1_inRow 28 = .ok (.iconst 1, 1) := by decide +kernel
theorem dX1_inRow_29 : decode cX1_inRow 29 = .ok (.iload 5, 2) := by decide +kernel
theorem dX1_inRow_31 : decode cX1_inRow 31 = .ok (.ishl, 1) := by decide +kernel
theorem dX1_inRow_32 : decode cX1_inRow 32 = .ok (.iconst 1, 1) := by decide +kernel
theorem dX1_inRow_33 : decode cX1_inRow 33 = .ok (.isub, 1) := by decide +kernel
theorem dX1_inRow_34 : decode cX1_inRow 34 = .ok (.iand, 1) := by decide +kernel
theorem dX1_inRow_35 : decode cX1_inRow 35 = .ok (.istore 6, 2) := by decide +kernel
theorem dX1_inRow_37 : decode cX1_inRow 37 = .ok (.iload 4, 2) := by decide +kernel
theorem dX1_inRow_39 : decode cX1_inRow 39 = .ok (.aload_n 1, 1) := by decide +kernel
theorem dX1_inRow_40 : decode cX1_inRow 40 = .ok (.iload 6, 2) := by decide +kernel
theorem dX1_inRow_42 : decode cX1_inRow 42 = .ok (.iaload, 1) := by decide +kernel
theorem dX1_inRow_43 : decode cX1_inRow 43 = .ok (.aload_n 2, 1) := by decide +kernel
theorem dX1_inRow_44 : decode cX1_inRow 44 = .ok (.iload_n 3, 1) := by decide +kernel
theorem dX1_inRow_45 : decode cX1_inRow 45 = .ok (.iload 6, 2) := by decide +kernel
theorem dX1_inRow_47 : decode cX1_inRow 47 = .ok (.ixor, 1) := by decide +kernel
theorem dX1_inRow_48 : decode cX1_inRow 48 = .ok (.iaload, 1) := by decide +kernel
theorem dX1_inRow_49 : decode cX1_inRow 49 = .ok (.iadd, 1) := by decide +kernel
theorem dX1_inRow_50 : decode cX1_inRow 50 = .ok (.invokestatic 27, 3) := by decide +kernel
theorem dX1_inRow_53 : decode cX1_inRow 53 = .ok (.istore 4, 2) := by decide +kernel
theorem dX1_inRow_55 : decode cX1_inRow 55 = .ok (.iinc 5 1, 3) := by decide +kernel
theorem dX1_inRow_58 : decode cX1_inRow 58 = .ok (.goto (-40), 3) := by decide +kernel
theorem dX1_inRow_61 : decode cX1_inRow 61 = .ok (.aload_n 1, 1) := by decide +kernel
theorem dX1_inRow_62 : decode cX1_inRow 62 = .ok (.iload_n 3, 1) := by decide +kernel
theorem dX1_inRow_63 : decode cX1_inRow 63 = .ok (.iload 4, 2) := by decide +kernel
theorem dX1_inRow_65 : decode cX1_inRow 65 = .ok (.iastore, 1) := by decide +kernel
theorem dX1_inRow_66 : decode cX1_inRow 66 = .ok (.iinc 3 (-1), 3) := by decide +kernel
theorem dX1_inRow_69 : decode cX1_inRow 69 = .ok (.goto (-62), 3) := by decide +kernel
theorem dX1_inRow_72 : decode cX1_inRow 72 = .ok (.return_, 1) := by decide +kernel
theorem dX1_mixed_0 : decode cX1_mixed 0 = .ok (.aload_n 0, 1) := by decide +kernel
theorem dX1_mixed_1 : decode cX1_mixed 1 = .ok (.getfield 34, 3) := by decide +kernel
theorem dX1_mixed_4 : decode cX1_mixed 4 = .ok (.iconst 1, 1) := by decide +kernel
theorem dX1_mixed_5 : decode cX1_mixed 5 = .ok (.isub, 1) := by decide +kernel
theorem dX1_mixed_6 : decode cX1_mixed 6 = .ok (.istore_n 3, 1) := by decide +kernel
theorem dX1_mixed_7 : decode cX1_mixed 7 = .ok (.iload_n 3, 1) := by decide +kernel
theorem dX1_mixed_8 : decode cX1_mixed 8 = .ok (.ifCond .lt 65, 3) := by decide +kernel
theorem dX1_mixed_11 : decode cX1_mixed 11 = .ok (.aload_n 1, 1) := by decide +kernel
theorem dX1_mixed_12 : decode cX1_mixed 12 = .ok (.iconst 0, 1) := by decide +kernel
theorem dX1_mixed_13 : decode cX1_mixed 13 = .ok (.iaload, 1) := by decide +kernel
theorem dX1_mixed_14 : decode cX1_mixed 14 = .ok (.aload_n 2, 1) := by decide +kernel
theorem dX1_mixed_15 : decode cX1_mixed 15 = .ok (.iload_n 3, 1) := by decide +kernel
theorem dX1_mixed_16 : decode cX1_mixed 16 = .ok (.iaload, 1) := by decide +kernel
theorem dX1_mixed_17 : decode cX1_mixed 17 = .ok (.iadd, 1) := by decide +kernel
theorem dX1_mixed_18 : decode cX1_mixed 18 = .ok (.istore 4, 2) := by decide +kernel
theorem dX1_mixed_20 : decode cX1_mixed 20 = .ok (.iload_n 3, 1) := by decide +kernel
theorem dX1_mixed_21 : decode cX1_mixed 21 = .ok (.istore 5, 2) := by decide +kernel
theorem dX1_mixed_23 : decode cX1_mixed 23 = .ok (.iload 5, 2) := by decide +kernel
theorem dX1_mixed_25 : decode cX1_mixed 25 = .ok (.ifCond .le 32, 3) := by decide +kernel
theorem dX1_mixed_28 : decode cX1_mixed 28 = .ok (.iload 4, 2) := by decide +kernel
theorem dX1_mixed_30 : decode cX1_mixed 30 = .ok (.aload_n 1, 1) := by decide +kernel
theorem dX1_mixed_31 : decode cX1_mixed 31 = .ok (.iload 5, 2) := by decide +kernel
theorem dX1_mixed_33 : decode cX1_mixed 33 = .ok (.iaload, 1) := by decide +kernel
theorem dX1_mixed_34 : decode cX1_mixed 34 = .ok (.aload_n 2, 1) := by decide +kernel
theorem dX1_mixed_35 : decode cX1_mixed 35 = .ok (.iload_n 3, 1) := by decide +kernel
theorem dX1_mixed_36 : decode cX1_mixed 36 = .ok (.iload 5, 2) := by decide +kernel
theorem dX1_mixed_38 : decode cX1_mixed 38 = .ok (.ixor, 1) := by decide +kernel
theorem dX1_mixed_39 : decode cX1_mixed 39 = .ok (.iaload, 1) := by decide +kernel
theorem dX1_mixed_40 : decode cX1_mixed 40 = .ok (.iadd, 1) := by decide +kernel
theorem dX1_mixed_41 : decode cX1_mixed 41 = .ok (.invokestatic 27, 3) := by decide +kernel
theorem dX1_mixed_44 : decode cX1_mixed 44 = .ok (.istore 4, 2) := by decide +kernel
theorem dX1_mixed_46 : decode cX1_mixed 46 = .ok (.iload 5, 2) := by decide +kernel
theorem dX1_mixed_48 : decode cX1_mixed 48 = .ok (.iconst 1, 1) := by decide +kernel
theorem dX1_mixed_49 : decode cX1_mixed 49 = .ok (.isub, 1) := by decide +kernel
theorem dX1_mixed_50 : decode cX1_mixed 50 = .ok (.iload_n 3, 1) := by decide +kernel
theorem dX1_mixed_51 : decode cX1_mixed 51 = .ok (.iand, 1) := by decide +kernel
theorem dX1_mixed_52 : decode cX1_mixed 52 = .ok (.istore 5, 2) := by decide +kernel
theorem dX1_mixed_54 : decode cX1_mixed 54 = .ok (.goto (-31), 3) := by decide +kernel
theorem dX1_mixed_57 : decode cX1_mixed 57 = .ok (.aload_n 1, 1) := by decide +kernel
theorem dX1_mixed_58 : decode cX1_mixed 58 = .ok (.iload_n 3, 1) := by decide +kernel
theorem dX1_mixed_59 : decode cX1_mixed 59 = .ok (.iload 4, 2) := by decide +kernel
theorem dX1_mixed_61 : decode cX1_mixed 61 = .ok (.ldc 52, 2) := by decide +kernel
theorem dX1_mixed_63 : decode cX1_mixed 63 = .ok (.invokestatic 27, 3) := by decide +kernel
theorem dX1_mixed_66 : decode cX1_mixed 66 = .ok (.iastore, 1) := by decide +kernel
theorem dX1_mixed_67 : decode cX1_mixed 67 = .ok (.iinc 3 (-1), 3) := by decide +kernel
theorem dX1_mixed_70 : decode cX1_mixed 70 = .ok (.goto (-63), 3) := by decide +kernel
theorem dX1_mixed_73 : decode cX1_mixed 73 = .ok (.return_, 1) := by decide +kernel
theorem dX1_cheaper_0 : decode cX1_cheaper 0 = .ok (.iconst 0, 1) := by decide +kernel
theorem dX1_cheaper_1 : decode cX1_cheaper 1 = .ok (.istore_n 3, 1) := by decide +kernel
theorem dX1_cheaper_2 : decode cX1_cheaper 2 = .ok (.iload_n 3, 1) := by decide +kernel
theorem dX1_cheaper_3 : decode cX1_cheaper 3 = .ok (.aload_n 0, 1) := by decide +kernel
theorem dX1_cheaper_4 : decode cX1_cheaper 4 = .ok (.getfield 34, 3) := by decide +kernel
theorem dX1_cheaper_7 : decode cX1_cheaper 7 = .ok (.if_icmp .ge 21, 3) := by decide +kernel
theorem dX1_cheaper_10 : decode cX1_cheaper 10 = .ok (.aload_n 1, 1) := by decide +kernel
theorem dX1_cheaper_11 : decode cX1_cheaper 11 = .ok (.iload_n 3, 1) := by decide +kernel
theorem dX1_cheaper_12 : decode cX1_cheaper 12 = .ok (.aload_n 1, 1) := by decide +kernel
theorem dX1_cheaper_13 : decode cX1_cheaper 13 = .ok (.iload_n 3, 1) := by decide +kernel
theorem dX1_cheaper_14 : decode cX1_cheaper 14 = .ok (.iaload, 1) := by decide +kernel
theorem dX1_cheaper_15 : decode cX1_cheaper 15 = .ok (.aload_n 2, 1) := by decide +kernel
theorem dX1_cheaper_16 : decode cX1_cheaper 16 = .ok (.iload_n 3, 1) := by decide +kernel
theorem dX1_cheaper_17 : decode cX1_cheaper 17 = .ok (.iaload, 1) := by decide +kernel
theorem dX1_cheaper_18 : decode cX1_cheaper 18 = .ok (.invokestatic 27, 3) := by decide +kernel
theorem dX1_cheaper_21 : decode cX1_cheaper 21 = .ok (.iastore, 1) := by decide +kernel
theorem dX1_cheaper_22 : decode cX1_cheaper 22 = .ok (.iinc 3 1, 3) := by decide +kernel
theorem dX1_cheaper_25 : decode cX1_cheaper 25 = .ok (.goto (-23), 3) := by decide +kernel
theorem dX1_cheaper_28 : decode cX1_cheaper 28 = .ok (.return_, 1) := by decide +kernel
theorem dX1_copy_0 : decode cX1_copy 0 = .ok (.iconst 0, 1) := by decide +kernel
theorem dX1_copy_1 : decode cX1_copy 1 = .ok (.istore_n 3, 1) := by decide +kernel
theorem dX1_copy_2 : decode cX1_copy 2 = .ok (.iload_n 3, 1) := by decide +kernel
theorem dX1_copy_3 : decode cX1_copy 3 = .ok (.aload_n 0, 1) := by decide +kernel
theorem dX1_copy_4 : decode cX1_copy 4 = .ok (.getfield 34, 3) := by decide +kernel
theorem dX1_copy_7 : decode cX1_copy 7 = .ok (.if_icmp .ge 15, 3) := by decide +kernel
theorem dX1_copy_10 : decode cX1_copy 10 = .ok (.aload_n 2, 1) := by decide +kernel
theorem dX1_copy_11 : decode cX1_copy 11 = .ok (.iload_n 3, 1) := by decide +kernel
theorem dX1_copy_12 : decode cX1_copy 12 = .ok (.aload_n 1, 1) := by decide +kernel
theorem dX1_copy_13 : decode cX1_copy 13 = .ok (.iload_n 3, 1) := by decide +kernel
theorem dX1_copy_14 : decode cX1_copy 14 = .ok (.iaload, 1) := by decide +kernel
theorem dX1_copy_15 : decode cX1_copy 15 = .ok (.iastore, 1) := by decide +kernel
theorem dX1_copy_16 : decode cX1_copy 16 = .ok (.iinc 3 1, 3) := by decide +kernel
theorem dX1_copy_19 : decode cX1_copy 19 = .ok (.goto (-17), 3) := by decide +kernel
theorem dX1_copy_22 : decode cX1_copy 22 = .ok (.return_, 1) := by decide +kernel
theorem dX2_init_0 : decode cX2_init 0 = .ok (.aload_n 0, 1) := by decide +kernel
theorem dX2_init_1 : decode cX2_init 1 = .ok (.invokespecial 3, 3) := by decide +kernel
theorem dX2_init_4 : decode cX2_init 4 = .ok (.aload_n 0, 1) := by decide +kernel
theorem dX2_init_5 : decode cX2_init 5 = .ok (.bipush (-3), 2) := by decide +kernel
theorem dX2_init_7 : decode cX2_init 7 = .ok (.putfield 9, 3) := by decide +kernel
theorem dX2_init_10 : decode cX2_init 10 = .ok (.aload_n 0, 1) := by decide +kernel
theorem dX2_init_11 : decode cX2_init 11 = .ok (.iload_n 1, 1) := by decide +kernel
theorem dX2_init_12 : decode cX2_init 12 = .ok (.putfield 15, 3) := by decide +kernel
theorem dX2_init_15 : decode cX2_init 15 = .ok (.aload_n 0, 1) := by decide +kernel
theorem dX2_init_16 : decode cX2_init 16 = .ok (.iload_n 2, 1) := by decide +kernel
theorem dX2_init_17 : decode cX2_init 17 = .ok (.putfield 18, 3) := by decide +kernel
theorem dX2_init_20 : decode cX2_init 20 = .ok (.aload_n 0, 1) := by decide +kernel
theorem dX2_init_21 : decode cX2_init 21 = .ok (.aload_n 3, 1) := by decide +kernel
theorem dX2_init_22 : decode cX2_init 22 = .ok (.putfield 21, 3) := by decide +kernel
theorem dX2_init_25 : decode cX2_init 25 = .ok (.iconst 1, 1) := by decide +kernel
theorem dX2_init_26 : decode cX2_init 26 = .ok (.istore 4, 2) := by decide +kernel
theorem dX2_init_28 : decode cX2_init 28 = .ok (.iconst 0, 1) := by decide +kernel
theorem dX2_init_29 : decode cX2_init 29 = .ok (.istore 5, 2) := by decide +kernel
theorem dX2_init_31 : decode cX2_init 31 = .ok (.iload 5, 2) := by decide +kernel
theorem dX2_init_33 : decode cX2_init 33 = .ok (.aload_n 3, 1) := by decide +kernel
theorem dX2_init_34 : decode cX2_init 34 = .ok (.arraylength, 1) := by decide +kernel
theorem dX2_init_35 : decode cX2_init 35 = .ok (.if_icmp .ge 21, 3) := by decide +kernel
theorem dX2_init_38 : decode cX2_init 38 = .ok (.iload 4, 2) := by decide +kernel
theorem dX2_init_40 : decode cX2_init 40 = .ok (.aload_n 3, 1) := by decide +kernel
theorem dX2_init_41 : decode cX2_init 41 = .ok (.iload 5, 2) := by decide +kernel
theorem dX2_init_43 : decode cX2_init 43 = .ok (.aaload, 1) := by decide +kernel
theorem dX2_init_44 : decode cX2_init 44 = .ok (.getfield 25, 3) := by decide +kernel
theorem dX2_init_47 : decode cX2_init 47 = .ok (.iadd, 1) := by decide +kernel
theorem dX2_init_48 : decode cX2_init 48 = .ok (.istore 4, 2) := by decide +kernel
theorem dX2_init_50 : decode cX2_init 50 = .ok (.iinc 5 1, 3) := by decide +kernel
theorem dX2_init_53 : decode cX2_init 53 = .ok (.goto (-22), 3) := by decide +kernel
theorem dX2_init_56 : decode cX2_init 56 = .ok (.aload_n 0, 1) := by decide +kernel
theorem dX2_init_57 : decode cX2_init 57 = .ok (.iload 4, 2) := by decide +kernel
theorem dX2_init_59 : decode cX2_init 59 = .ok (.putfield 25, 3) := by decide +kernel
theorem dX2_init_62 : decode cX2_init 62 = .ok (.aload_n 0, 1) := by decide +kernel
theorem dX2_init_63 : decode cX2_init 63 = .ok (.iload_n 1, 1) := by decide +kernel
theorem dX2_init_64 : decode cX2_init 64 = .ok (.aload_n 3, 1) := by decide +kernel
theorem dX2_init_65 : decode cX2_init 65 = .ok (.invokestatic 28, 3) := by decide +kernel
theorem dX2_init_68 : decode cX2_init 68 = .ok (.putfield 32, 3) := by decide +kernel
theorem dX2_init_71 : decode cX2_init 71 = .ok (.return_, 1) := by decide +kernel
theorem dX2_fewestOf_0 : decode cX2_fewestOf 0 = .ok (.iload_n 0, 1) := by decide +kernel
theorem dX2_fewestOf_1 : decode cX2_fewestOf 1 = .ok (.ifCond .ne 5, 3) := by decide +kernel
theorem dX2_fewestOf_4 : decode cX2_fewestOf 4 = .ok (.iconst 1, 1) := by decide +kernel
theorem dX2_fewestOf_5 : decode cX2_fewestOf 5 = .ok (.ireturn, 1) := by decide +kernel
theorem dX2_fewestOf_6 : decode cX2_fewestOf 6 = .ok (.aload_n 1, 1) := by decide +kernel
theorem dX2_fewestOf_7 : decode cX2_fewestOf 7 = .ok (.arraylength, 1) := by decide +kernel
theorem dX2_fewestOf_8 : decode cX2_fewestOf 8 = .ok (.ifCond .ne 5, 3) := by decide +kernel
theorem dX2_fewestOf_11 : decode cX2_fewestOf 11 = .ok (.iconst 0, 1) := by decide +kernel
theorem dX2_fewestOf_12 : decode cX2_fewestOf 12 = .ok (.ireturn, 1) := by decide +kernel
theorem dX2_fewestOf_13 : decode cX2_fewestOf 13 = .ok (.aload_n 1, 1) := by decide +kernel
theorem dX2_fewestOf_14 : decode cX2_fewestOf 14 = .ok (.iconst 0, 1) := by decide +kernel
theorem dX2_fewestOf_15 : decode cX2_fewestOf 15 = .ok (.aaload, 1) := by decide +kernel
theorem dX2_fewestOf_16 : decode cX2_fewestOf 16 = .ok (.getfield 32, 3) := by decide +kernel
theorem dX2_fewestOf_19 : decode cX2_fewestOf 19 = .ok (.istore_n 2, 1) := by decide +kernel
theorem dX2_fewestOf_20 : decode cX2_fewestOf 20 = .ok (.iconst 1, 1) := by decide +kernel
theorem dX2_fewestOf_21 : decode cX2_fewestOf 21 = .ok (.istore_n 3, 1) := by decide +kernel
theorem dX2_fewestOf_22 : decode cX2_fewestOf 22 = .ok (.iload_n 3, 1) := by decide +kernel
theorem dX2_fewestOf_23 : decode cX2_fewestOf 23 = .ok (.aload_n 1, 1) := by decide +kernel
theorem dX2_fewestOf_24 : decode cX2_fewestOf 24 = .ok (.arraylength, 1) := by decide +kernel
theorem dX2_fewestOf_25 : decode cX2_fewestOf 25 = .ok (.if_icmp .ge 41, 3) := by decide +kernel
theorem dX2_fewestOf_28 : decode cX2_fewestOf 28 = .ok (.iload_n 0, 1) := by decide +kernel
theorem dX2_fewestOf_29 : decode cX2_fewestOf 29 = .ok (.iconst 5, 1) := by decide +kernel
theorem dX2_fewestOf_30 : decode cX2_fewestOf 30 = .ok (.if_icmp .eq 36, 3) := by decide +kernel
theorem dX2_fewestOf_33 : decode cX2_fewestOf 33 = .ok (.iload_n 0, 1) := by decide +kernel
theorem dX2_fewestOf_34 : decode cX2_fewestOf 34 = .ok (.iconst 3, 1) := by decide +kernel
theorem dX2_fewestOf_35 : decode cX2_fewestOf 35 = .ok (.if_icmp .ne 16, 3) := by decide +kernel
theorem dX2_fewestOf_38 : decode cX2_fewestOf 38 = .ok (.iload_n 2, 1) := by decide +kernel
theorem dX2_fewestOf_39 : decode cX2_fewestOf 39 = .ok (.aload_n 1, 1) := by decide +kernel
theorem dX2_fewestOf_40 : decode cX2_fewestOf 40 = .ok (.iload_n 3, 1) := by decide +kernel
theorem dX2_fewestOf_41 : decode cX2_fewestOf 41 = .ok (.aaload, 1) := by decide +kernel
theorem dX2_fewestOf_42 : decode cX2_fewestOf 42 = .ok (.getfield 32, 3) := by decide +kernel
theorem dX2_fewestOf_45 : decode cX2_fewestOf 45 = .ok (.invokestatic 35, 3) := by decide +kernel
theorem dX2_fewestOf_48 : decode cX2_fewestOf 48 = .ok (.goto 11, 3) := by decide +kernel
theorem dX2_fewestOf_51 : decode cX2_fewestOf 51 = .ok (.iload_n 2, 1) := by decide +kernel
theorem dX2_fewestOf_52 : decode cX2_fewestOf 52 = .ok (.aload_n 1, 1) := by decide +kernel
theorem dX2_fewestOf_53 : decode cX2_fewestOf 53 = .ok (.iload_n 3, 1) := by decide +kernel
theorem dX2_fewestOf_54 : decode cX2_fewestOf 54 = .ok (.aaload, 1) := by decide +kernel
theorem dX2_fewestOf_55 : decode cX2_fewestOf 55 = .ok (.getfield 32, 3) := by decide +kernel
theorem dX2_fewestOf_58 : decode cX2_fewestOf 58 = .ok (.iadd, 1) := by decide +kernel
theorem dX2_fewestOf_59 : decode cX2_fewestOf 59 = .ok (.istore_n 2, 1) := by decide +kernel
theorem dX2_fewestOf_60 : decode cX2_fewestOf 60 = .ok (.iinc 3 1, 3) := by decide +kernel
theorem dX2_fewestOf_63 : decode cX2_fewestOf 63 = .ok (.goto (-41), 3) := by decide +kernel
theorem dX2_fewestOf_66 : decode cX2_fewestOf 66 = .ok (.iload_n 2, 1) := by decide +kernel
theorem dX2_fewestOf_67 : decode cX2_fewestOf 67 = .ok (.ireturn, 1) := by decide +kernel
theorem dX3_init_0 : decode cX3_init 0 = .ok (.aload_n 0, 1) := by decide +kernel
theorem dX3_init_1 : decode cX3_init 1 = .ok (.invokespecial 3, 3) := by decide +kernel
theorem dX3_init_4 : decode cX3_init 4 = .ok (.aload_n 0, 1) := by decide +kernel
theorem dX3_init_5 : decode cX3_init 5 = .ok (.sipush 144, 3) := by decide +kernel
theorem dX3_init_8 : decode cX3_init 8 = .ok (.newarray .int, 2) := by decide +kernel
theorem dX3_init_10 : decode cX3_init 10 = .ok (.putfield 9, 3) := by decide +kernel
theorem dX3_init_13 : decode cX3_init 13 = .ok (.aload_n 0, 1) := by decide +kernel
theorem dX3_init_14 : decode cX3_init 14 = .ok (.bipush 12, 2) := by decide +kernel
theorem dX3_init_16 : decode cX3_init 16 = .ok (.newarray .int, 2) := by decide +kernel
theorem dX3_init_18 : decode cX3_init 18 = .ok (.putfield 15, 3) := by decide +kernel
theorem dX3_init_21 : decode cX3_init 21 = .ok (.aload_n 0, 1) := by decide +kernel
theorem dX3_init_22 : decode cX3_init 22 = .ok (.bipush 12, 2) := by decide +kernel
theorem dX3_init_24 : decode cX3_init 24 = .ok (.newarray .int, 2) := by decide +kernel
theorem dX3_init_26 : decode cX3_init 26 = .ok (.putfield 18, 3) := by decide +kernel
theorem dX3_init_29 : decode cX3_init 29 = .ok (.aload_n 0, 1) := by decide +kernel
theorem dX3_init_30 : decode cX3_init 30 = .ok (.bipush 12, 2) := by decide +kernel
theorem dX3_init_32 : decode cX3_init 32 = .ok (.newarray .int, 2) := by decide +kernel
theorem dX3_init_34 : decode cX3_init 34 = .ok (.putfield 21, 3) := by decide +kernel
theorem dX3_init_37 : decode cX3_init 37 = .ok (.aload_n 0, 1) := by decide +kernel
theorem dX3_init_38 : decode cX3_init 38 = .ok (.bipush 12, 2) := by decide +kernel
theorem dX3_init_40 : decode cX3_init 40 = .ok (.newarray .int, 2) := by decide +kernel
theorem dX3_init_42 : decode cX3_init 42 = .ok (.putfield 24, 3) := by decide +kernel
theorem dX3_init_45 : decode cX3_init 45 = .ok (.aload_n 0, 1) := by decide +kernel
theorem dX3_init_46 : decode cX3_init 46 = .ok (.bipush 12, 2) := by decide +kernel
theorem dX3_init_48 : decode cX3_init 48 = .ok (.newarray .int, 2) := by decide +kernel
theorem dX3_init_50 : decode cX3_init 50 = .ok (.putfield 27, 3) := by decide +kernel
theorem dX3_init_53 : decode cX3_init 53 = .ok (.return_, 1) := by decide +kernel
theorem dX3_put_0 : decode cX3_put 0 = .ok (.aload_n 0, 1) := by decide +kernel
theorem dX3_put_1 : decode cX3_put 1 = .ok (.getfield 30, 3) := by decide +kernel
theorem dX3_put_4 : decode cX3_put 4 = .ok (.aload_n 0, 1) := by decide +kernel
theorem dX3_put_5 : decode cX3_put 5 = .ok (.getfield 9, 3) := by decide +kernel
theorem dX3_put_8 : decode cX3_put 8 = .ok (.arraylength, 1) := by decide +kernel
theorem dX3_put_9 : decode cX3_put 9 = .ok (.if_icmp .lt 4, 3) := by decide +kernel
theorem dX3_put_12 : decode cX3_put 12 = .ok (.return_, 1) := by decide +kernel
theorem dX3_put_13 : decode cX3_put 13 = .ok (.aload_n 0, 1) := by decide +kernel
theorem dX3_put_14 : decode cX3_put 14 = .ok (.getfield 9, 3) := by decide +kernel
theorem dX3_put_17 : decode cX3_put 17 = .ok (.aload_n 0, 1) := by decide +kernel
theorem dX3_put_18 : decode cX3_put 18 = .ok (.getfield 30, 3) := by decide +kernel
theorem dX3_put_21 : decode cX3_put 21 = .ok (.iload_n 1, 1) := by decide +kernel
theorem dX3_put_22 : decode cX3_put 22 = .ok (.iastore, 1) := by decide +kernel
theorem dX3_put_23 : decode cX3_put 23 = .ok (.aload_n 0, 1) := by decide +kernel
theorem dX3_put_24 : decode cX3_put 24 = .ok (.dup, 1) := by decide +kernel
theorem dX3_put_25 : decode cX3_put 25 = .ok (.getfield 30, 3) := by decide +kernel
theorem dX3_put_28 : decode cX3_put 28 = .ok (.iconst 1, 1) := by decide +kernel
theorem dX3_put_29 : decode cX3_put 29 = .ok (.iadd, 1) := by decide +kernel
theorem dX3_put_30 : decode cX3_put 30 = .ok (.putfield 30, 3) := by decide +kernel
theorem dX3_put_33 : decode cX3_put 33 = .ok (.return_, 1) := by decide +kernel
theorem dX3_leaveOutEmpty_0 : decode cX3_leaveOutEmpty 0 = .ok (.aload_n 0, 1) := by decide +kernel
theorem dX3_leaveOutEmpty_1 : decode cX3_leaveOutEmpty 1 = .ok (.getfield 30, 3) := by decide +kernel
theorem dX3_leaveOutEmpty_4 : decode cX3_leaveOutEmpty 4 = .ok (.istore_n 1, 1) := by decide +kernel
theorem dX3_leaveOutEmpty_5 : decode cX3_leaveOutEmpty 5 = .ok (.aload_n 0, 1) := by decide +kernel
theorem dX3_leaveOutEmpty_6 : decode cX3_leaveOutEmpty 6 = .ok (.iconst 0, 1) := by decide +kernel
theorem dX3_leaveOutEmpty_7 : decode cX3_leaveOutEmpty 7 = .ok (.putfield 30, 3) := by decide +kernel
theorem dX3_leaveOutEmpty_10 : decode cX3_leaveOutEmpty 10 = .ok (.iconst 0, 1) := by decide +kernel
theorem dX3_leaveOutEmpty_11 : decode cX3_leaveOutEmpty 11 = .ok (.istore_n 2, 1) := by decide +kernel
theorem dX3_leaveOutEmpty_12 : decode cX3_leaveOutEmpty 12 = .ok (.iload_n 2, 1) := by decide +kernel
theorem dX3_leaveOutEmpty_13 : decode cX3_leaveOutEmpty 13 = .ok (.iload_n 1, 1) := by decide +kernel
theorem dX3_leaveOutEmpty_14 : decode cX3_leaveOutEmpty 14 = .ok (.if_icmp .ge 28, 3) := by decide +kernel
theorem dX3_leaveOutEmpty_17 : decode cX3_leaveOutEmpty 17 = .ok (.aload_n 0, 1) := by decide +kernel
theorem dX3_leaveOutEmpty_18 : decode cX3_leaveOutEmpty 18 = .ok (.getfield 9, 3) := by decide +kernel
theorem dX3_leaveOutEmpty_21 : decode cX3_leaveOutEmpty 21 = .ok (.iload_n 2, 1) := by decide +kernel
theorem dX3_leaveOutEmpty_22 : decode cX3_leaveOutEmpty 22 = .ok (.iaload, 1) := by decide +kernel
theorem dX3_leaveOutEmpty_23 : decode cX3_leaveOutEmpty 23 = .ok (.ifCond .eq 13, 3) := by decide +kernel
theorem dX3_leaveOutEmpty_26 : decode cX3_leaveOutEmpty 26 = .ok (.aload_n 0, 1) := by decide +kernel
theorem dX3_leaveOutEmpty_27 : decode cX3_leaveOutEmpty 27 = .ok (.aload_n 0, 1) := by decide +kernel
theorem dX3_leaveOutEmpty_28 : decode cX3_leaveOutEmpty 28 = .ok (.getfield 9, 3) := by decide +kernel
theorem dX3_leaveOutEmpty_31 : decode cX3_leaveOutEmpty 31 = .ok (.iload_n 2, 1) := by decide +kernel
theorem dX3_leaveOutEmpty_32 : decode cX3_leaveOutEmpty 32 = .ok (.iaload, 1) := by decide +kernel
theorem dX3_leaveOutEmpty_33 : decode cX3_leaveOutEmpty 33 = .ok (.invokevirtual 34, 3) := by decide +kernel
theorem dX3_leaveOutEmpty_36 : decode cX3_leaveOutEmpty 36 = .ok (.iinc 2 1, 3) := by decide +kernel
theorem dX3_leaveOutEmpty_39 : decode cX3_leaveOutEmpty 39 = .ok (.goto (-27), 3) := by decide +kernel
theorem dX3_leaveOutEmpty_42 : decode cX3_leaveOutEmpty 42 = .ok (.return_, 1) := by decide +kernel
theorem dX3_hasLongRow_0 : decode cX3_hasLongRow 0 = .ok (.iconst 0, 1) := by decide +kernel
theorem dX3_hasLongRow_1 : decode cX3_hasLongRow 1 = .ok (.istore_n 1, 1) := by decide +kernel
theorem dX3_hasLongRow_2 : decode cX3_hasLongRow 2 = .ok (.iload_n 1, 1) := by decide +kernel
theorem dX3_hasLongRow_3 : decode cX3_hasLongRow 3 = .ok (.aload_n 0, 1) := by decide +kernel
theorem dX3_hasLongRow_4 : decode cX3_hasLongRow 4 = .ok (.getfield 30, 3) := by decide +kernel
theorem dX3_hasLongRow_7 : decode cX3_hasLongRow 7 = .ok (.if_icmp .ge 26, 3) := by decide +kernel
theorem dX3_hasLongRow_10 : decode cX3_hasLongRow 10 = .ok (.aload_n 0, 1) := by decide +kernel
theorem dX3_hasLongRow_11 : decode cX3_hasLongRow 11 = .ok (.getfield 9, 3) := by decide +kernel
theorem dX3_hasLongRow_14 : decode cX3_hasLongRow 14 = .ok (.iload_n 1, 1) := by decide +kernel
theorem dX3_hasLongRow_15 : decode cX3_hasLongRow 15 = .ok (.iaload, 1) := by decide +kernel
theorem dX3_hasLongRow_16 : decode cX3_hasLongRow 16 = .ok (.iconst 1, 1) := by decide +kernel
theorem dX3_hasLongRow_17 : decode cX3_hasLongRow 17 = .ok (.invokestatic 38, 3) := by decide +kernel
theorem dX3_hasLongRow_20 : decode cX3_hasLongRow 20 = .ok (.bipush (-3), 2) := by decide +kernel
theorem dX3_hasLongRow_22 : decode cX3_hasLongRow 22 = .ok (.if_icmp .eq 5, 3) := by decide +kernel
theorem dX3_hasLongRow_25 : decode cX3_hasLongRow 25 = .ok (.iconst 1, 1) := by decide +kernel
theorem dX3_hasLongRow_26 : decode cX3_hasLongRow 26 = .ok (.ireturn, 1) := by decide +kernel
theorem dX3_hasLongRow_27 : decode cX3_hasLongRow 27 = .ok (.iinc 1 1, 3) := by decide +kernel
theorem dX3_hasLongRow_30 : decode cX3_hasLongRow 30 = .ok (.goto (-28), 3) := by decide +kernel
theorem dX3_hasLongRow_33 : decode cX3_hasLongRow 33 = .ok (.iconst 0, 1) := by decide +kernel
theorem dX3_hasLongRow_34 : decode cX3_hasLongRow 34 = .ok (.ireturn, 1) := by decide +kernel
theorem dX3_nameIn_0 : decode cX3_nameIn 0 = .ok (.iload_n 1, 1) := by decide +kernel
theorem dX3_nameIn_1 : decode cX3_nameIn 1 = .ok (.ifCond .lt 20, 3) := by decide +kernel
theorem dX3_nameIn_4 : decode cX3_nameIn 4 = .ok (.iload_n 1, 1) := by decide +kernel
theorem dX3_nameIn_5 : decode cX3_nameIn 5 = .ok (.bipush 6, 2) := by decide +kernel
theorem dX3_nameIn_7 : decode cX3_nameIn 7 = .ok (.if_icmp .ge 14, 3) := by decide +kernel
theorem dX3_nameIn_10 : decode cX3_nameIn 10 = .ok (.iload_n 0, 1) := by decide +kernel
theorem dX3_nameIn_11 : decode cX3_nameIn 11 = .ok (.iload_n 1, 1) := by decide +kernel
theorem dX3_nameIn_12 : decode cX3_nameIn 12 = .ok (.iconst 4, 1) := by decide +kernel
theorem dX3_nameIn_13 : decode cX3_nameIn 13 = .ok (.imul, 1) := by decide +kernel
theorem dX3_nameIn_14 : decode cX3_nameIn 14 = .ok (.ishr, 1) := by decide +kernel
theorem dX3_nameIn_15 : decode cX3_nameIn 15 = .ok (.bipush 15, 2) := by decide +kernel
theorem dX3_nameIn_17 : decode cX3_nameIn 17 = .ok (.iand, 1) := by decide +kernel
theorem dX3_nameIn_18 : decode cX3_nameIn 18 = .ok (.goto 4, 3) := by decide +kernel
theorem dX3_nameIn_21 : decode cX3_nameIn 21 = .ok (.iconst 0, 1) := by decide +kernel
theorem dX3_nameIn_22 : decode cX3_nameIn 22 = .ok (.istore_n 2, 1) := by decide +kernel
theorem dX3_nameIn_23 : decode cX3_nameIn 23 = .ok (.iload_n 2, 1) := by decide +kernel
theorem dX3_nameIn_24 : decode cX3_nameIn 24 = .ok (.iconst 1, 1) := by decide +kernel
theorem dX3_nameIn_25 : decode cX3_nameIn 25 = .ok (.if_icmp .lt 15, 3) := by decide +kernel
theorem dX3_nameIn_28 : decode cX3_nameIn 28 = .ok (.iload_n 2, 1) := by decide +kernel
theorem dX3_nameIn_29 : decode cX3_nameIn 29 = .ok (.bipush 12, 2) := by decide +kernel
theorem dX3_nameIn_31 : decode cX3_nameIn 31 = .ok (.if_icmp .gt 9, 3) := by decide +kernel
theorem dX3_nameIn_34 : decode cX3_nameIn 34 = .ok (.iload_n 2, 1) := by decide +kernel
theorem dX3_nameIn_35 : decode cX3_nameIn 35 = .ok (.iconst 1, 1) := by decide +kernel
theorem dX3_nameIn_36 : decode cX3_nameIn 36 = .ok (.isub, 1) := by decide +kernel
theorem dX3_nameIn_37 : decode cX3_nameIn 37 = .ok (.goto 5, 3) := by decide +kernel
theorem dX3_nameIn_40 : decode cX3_nameIn 40 = .ok (.bipush (-3), 2) := by decide +kernel
theorem dX3_nameIn_42 : decode cX3_nameIn 42 = .ok (.ireturn, 1) := by decide +kernel
theorem dX3_look_0 : decode cX3_look 0 = .ok (.aload_n 0, 1) := by decide +kernel
theorem dX3_look_1 : decode cX3_look 1 = .ok (.iconst 0, 1) := by decide +kernel
theorem dX3_look_2 : decode cX3_look 2 = .ok (.putfield 42, 3) := by decide +kernel
theorem dX3_look_5 : decode cX3_look 5 = .ok (.aload_n 0, 1) := by decide +kernel
theorem dX3_look_6 : decode cX3_look 6 = .ok (.iconst 0, 1) := by decide +kernel
theorem dX3_look_7 : decode cX3_look 7 = .ok (.putfield 45, 3) := by decide +kernel
theorem dX3_look_10 : decode cX3_look 10 = .ok (.aload_n 0, 1) := by decide +kernel
theorem dX3_look_11 : decode cX3_look 11 = .ok (.iconst 0, 1) := by decide +kernel
theorem dX3_look_12 : decode cX3_look 12 = .ok (.putfield 48, 3) := by decide +kernel
theorem dX3_look_15 : decode cX3_look 15 = .ok (.aload_n 0, 1) := by decide +kernel
theorem dX3_look_16 : decode cX3_look 16 = .ok (.getfield 15, 3) := by decide +kernel
theorem dX3_look_19 : decode cX3_look 19 = .ok (.iconst 0, 1) := by decide +kernel
theorem dX3_look_20 : decode cX3_look 20 = .ok (.invokestatic 51, 3) := by decide +kernel
theorem dX3_look_23 : decode cX3_look 23 = .ok (.aload_n 0, 1) := by decide +kernel
theorem dX3_look_24 : decode cX3_look 24 = .ok (.getfield 18, 3) := by decide +kernel
theorem dX3_look_27 : decode cX3_look 27 = .ok (.iconst 0, 1) := by decide +kernel
theorem dX3_look_28 : decode cX3_look 28 = .ok (.invokestatic 51, 3) := by decide +kernel
theorem dX3_look_31 : decode cX3_look 31 = .ok (.iconst 0, 1) := by decide +kernel
theorem dX3_look_32 : decode cX3_look 32 = .ok (.istore_n 1, 1) := by decide +kernel
theorem dX3_look_33 : decode cX3_look 33 = .ok (.iload_n 1, 1) := by decide +kernel
theorem dX3_look_34 : decode cX3_look 34 = .ok (.aload_n 0, 1) := by decide +kernel
theorem dX3_look_35 : decode cX3_look 35 = .ok (.getfield 30, 3) := by decide +kernel
theorem dX3_look_38 : decode cX3_look 38 = .ok (.if_icmp .ge 19, 3) := by decide +kernel
theorem dX3_look_41 : decode cX3_look 41 = .ok (.aload_n 0, 1) := by decide +kernel
theorem dX3_look_42 : decode cX3_look 42 = .ok (.aload_n 0, 1) := by decide +kernel
theorem dX3_look_43 : decode cX3_look 43 = .ok (.getfield 9, 3) := by decide +kernel
theorem dX3_look_46 : decode cX3_look 46 = .ok (.iload_n 1, 1) := by decide +kernel
theorem dX3_look_47 : decode cX3_look 47 = .ok (.iaload, 1) := by decide +kernel
theorem dX3_look_48 : decode cX3_look 48 = .ok (.invokevirtual 57, 3) := by decide +kernel
theorem dX3_look_51 : decode cX3_look 51 = .ok (.iinc 1 1, 3) := by decide +kernel
theorem dX3_look_54 : decode cX3_look 54 = .ok (.goto (-21), 3) := by decide +kernel
theorem dX3_look_57 : decode cX3_look 57 = .ok (.return_, 1) := by decide +kernel
theorem dX3_lookAt_0 : decode cX3_lookAt 0 = .ok (.bipush (-3), 2) := by decide +kernel
theorem dX3_lookAt_2 : decode cX3_lookAt 2 = .ok (.istore_n 2, 1) := by decide +kernel
theorem dX3_lookAt_3 : decode cX3_lookAt 3 = .ok (.iconst 0, 1) := by decide +kernel
theorem dX3_lookAt_4 : decode cX3_lookAt 4 = .ok (.istore_n 3, 1) := by decide +kernel
theorem dX3_lookAt_5 : decode cX3_lookAt 5 = .ok (.iload_n 3, 1) := by decide +kernel
theorem dX3_lookAt_6 : decode cX3_lookAt 6 = .ok (.bipush 6, 2) := by decide +kernel
theorem dX3_lookAt_8 : decode cX3_lookAt 8 = .ok (.if_icmp .ge 90, 3) := by decide +kernel
theorem dX3_lookAt_11 : decode cX3_lookAt 11 = .ok (.iload_n 1, 1) := by decide +kernel
theorem dX3_lookAt_12 : decode cX3_lookAt 12 = .ok (.iload_n 3, 1) := by decide +kernel
theorem dX3_lookAt_13 : decode cX3_lookAt 13 = .ok (.invokestatic 38, 3) := by decide +kernel
theorem dX3_lookAt_16 : decode cX3_lookAt 16 = .ok (.istore 4, 2) := by decide +kernel
theorem dX3_lookAt_18 : decode cX3_lookAt 18 = .ok (.iload 4, 2) := by decide +kernel
theorem dX3_lookAt_20 : decode cX3_lookAt 20 = .ok (.bipush (-3), 2) := by decide +kernel
theorem dX3_lookAt_22 : decode cX3_lookAt 22 = .ok (.if_icmp .ne 6, 3) := by decide +kernel
theorem dX3_lookAt_25 : decode cX3_lookAt 25 = .ok (.goto 73, 3) := by decide +kernel
theorem dX3_lookAt_28 : decode cX3_lookAt 28 = .ok (.aload_n 0, 1) := by decide +kernel
theorem dX3_lookAt_29 : decode cX3_lookAt 29 = .ok (.dup, 1) := by decide +kernel
theorem dX3_lookAt_30 : decode cX3_lookAt 30 = .ok (.getfield 42, 3) := by decide +kernel
theorem dX3_lookAt_33 : decode cX3_lookAt 33 = .ok (.iconst 1, 1) := by decide +kernel
theorem dX3_lookAt_34 : decode cX3_lookAt 34 = .ok (.iload 4, 2) := by decide +kernel
theorem dX3_lookAt_36 : decode cX3_lookAt 36 = .ok (.ishl, 1) := by decide +kernel
theorem dX3_lookAt_37 : decode cX3_lookAt 37 = .ok (.ior, 1) := by decide +kernel
theorem dX3_lookAt_38 : decode cX3_lookAt 38 = .ok (.putfield 42, 3) := by decide +kernel
theorem dX3_lookAt_41 : decode cX3_lookAt 41 = .ok (.iload_n 2, 1) := by decide +kernel
theorem dX3_lookAt_42 : decode cX3_lookAt 42 = .ok (.bipush (-3), 2) := by decide +kernel
theorem dX3_lookAt_44 : decode cX3_lookAt 44 = .ok (.if_icmp .ne 19, 3) := by decide +kernel
theorem dX3_lookAt_47 : decode cX3_lookAt 47 = .ok (.aload_n 0, 1) := by decide +kernel
theorem dX3_lookAt_48 : decode cX3_lookAt 48 = .ok (.dup, 1) := by decide +kernel
theorem dX3_lookAt_49 : decode cX3_lookAt 49 = .ok (.getfield 45, 3) := by decide +kernel
theorem dX3_lookAt_52 : decode cX3_lookAt 52 = .ok (.iconst 1, 1) := by decide +kernel
theorem dX3_lookAt_53 : decode cX3_lookAt 53 = .ok (.iload 4, 2) := by decide +kernel
theorem dX3_lookAt_55 : decode cX3_lookAt 55 = .ok (.ishl, 1) := by decide +kernel
theorem dX3_lookAt_56 : decode cX3_lookAt 56 = .ok (.ior, 1) := by decide +kernel
theorem dX3_lookAt_57 : decode cX3_lookAt 57 = .ok (.putfield 45, 3) := by decide +kernel
theorem dX3_lookAt_60 : decode cX3_lookAt 60 = .ok (.goto 29, 3) := by decide +kernel
theorem dX3_lookAt_63 : decode cX3_lookAt 63 = .ok (.aload_n 0, 1) := by decide +kernel
theorem dX3_lookAt_64 : decode cX3_lookAt 64 = .ok (.getfield 15, 3) := by decide +kernel
theorem dX3_lookAt_67 : decode cX3_lookAt 67 = .ok (.iload_n 2, 1) := by decide +kernel
theorem dX3_lookAt_68 : decode cX3_lookAt 68 = .ok (.dup2, 1) := by decide +kernel
theorem dX3_lookAt_69 : decode cX3_lookAt 69 = .ok (.iaload, 1) := by decide +kernel
theorem dX3_lookAt_70 : decode cX3_lookAt 70 = .ok (.iconst 1, 1) := by decide +kernel
theorem dX3_lookAt_71 : decode cX3_lookAt 71 = .ok (.iload 4, 2) := by decide +kernel
theorem dX3_lookAt_73 : decode cX3_lookAt 73 = .ok (.ishl, 1) := by decide +kernel
theorem dX3_lookAt_74 : decode cX3_lookAt 74 = .ok (.ior, 1) := by decide +kernel
theorem dX3_lookAt_75 : decode cX3_lookAt 75 = .ok (.iastore, 1) := by decide +kernel
theorem dX3_lookAt_76 : decode cX3_lookAt 76 = .ok (.aload_n 0, 1) := by decide +kernel
theorem dX3_lookAt_77 : decode cX3_lookAt 77 = .ok (.getfield 18, 3) := by decide +kernel
theorem dX3_lookAt_80 : decode cX3_lookAt 80 = .ok (.iload 4, 2) := by decide +kernel
theorem dX3_lookAt_82 : decode cX3_lookAt 82 = .ok (.dup2, 1) := by decide +kernel
theorem dX3_lookAt_83 : decode cX3_lookAt 83 = .ok (.iaload, 1) := by decide +kernel
theorem dX3_lookAt_84 : decode cX3_lookAt 84 = .ok (.iconst 1, 1) := by decide +kernel
theorem dX3_lookAt_85 : decode cX3_lookAt 85 = .ok (.iload_n 2, 1) := by decide +kernel
theorem dX3_lookAt_86 : decode cX3_lookAt 86 = .ok (.ishl, 1) := by decide +kernel
theorem dX3_lookAt_87 : decode cX3_lookAt 87 = .ok (.ior, 1) := by decide +kernel
theorem dX3_lookAt_88 : decode cX3_lookAt 88 = .ok (.iastore, 1) := by decide +kernel
theorem dX3_lookAt_89 : decode cX3_lookAt 89 = .ok (.iload 4, 2) := by decide +kernel
theorem dX3_lookAt_91 : decode cX3_lookAt 91 = .ok (.istore_n 2, 1) := by decide +kernel
theorem dX3_lookAt_92 : decode cX3_lookAt 92 = .ok (.iinc 3 1, 3) := by decide +kernel
theorem dX3_lookAt_95 : decode cX3_lookAt 95 = .ok (.goto (-90), 3) := by decide +kernel
theorem dX3_lookAt_98 : decode cX3_lookAt 98 = .ok (.iload_n 2, 1) := by decide +kernel
theorem dX3_lookAt_99 : decode cX3_lookAt 99 = .ok (.bipush (-3), 2) := by decide +kernel
theorem dX3_lookAt_101 : decode cX3_lookAt 101 = .ok (.if_icmp .eq 15, 3) := by decide +kernel
theorem dX3_lookAt_104 : decode cX3_lookAt 104 = .ok (.aload_n 0, 1) := by decide +kernel
theorem dX3_lookAt_105 : decode cX3_lookAt 105 = .ok (.dup, 1) := by decide +kernel
theorem dX3_lookAt_106 : decode cX3_lookAt 106 = .ok (.getfield 48, 3) := by decide +kernel
theorem dX3_lookAt_109 : decode cX3_lookAt 109 = .ok (.iconst 1, 1) := by decide +kernel
theorem dX3_lookAt_110 : decode cX3_lookAt 110 = .ok (.iload_n 2, 1) := by decide +kernel
theorem dX3_lookAt_111 : decode cX3_lookAt 111 = .ok (.ishl, 1) := by decide +kernel
theorem dX3_lookAt_112 : decode cX3_lookAt 112 = .ok (.ior, 1) := by decide +kernel
theorem dX3_lookAt_113 : decode cX3_lookAt 113 = .ok (.putfield 48, 3) := by decide +kernel
theorem dX3_lookAt_116 : decode cX3_lookAt 116 = .ok (.return_, 1) := by decide +kernel
theorem dX3_takeFrom_0 : decode cX3_takeFrom 0 = .ok (.aload_n 0, 1) := by decide +kernel
theorem dX3_takeFrom_1 : decode cX3_takeFrom 1 = .ok (.iconst 0, 1) := by decide +kernel
theorem dX3_takeFrom_2 : decode cX3_takeFrom 2 = .ok (.putfield 30, 3) := by decide +kernel
theorem dX3_takeFrom_5 : decode cX3_takeFrom 5 = .ok (.iconst 0, 1) := by decide +kernel
theorem dX3_takeFrom_6 : decode cX3_takeFrom 6 = .ok (.istore 4, 2) := by decide +kernel
theorem dX3_takeFrom_8 : decode cX3_takeFrom 8 = .ok (.iload 4, 2) := by decide +kernel
theorem dX3_takeFrom_10 : decode cX3_takeFrom 10 = .ok (.aload_n 1, 1) := by decide +kernel
theorem dX3_takeFrom_11 : decode cX3_takeFrom 11 = .ok (.getfield 30, 3) := by decide +kernel
theorem dX3_takeFrom_14 : decode cX3_takeFrom 14 = .ok (.if_icmp .ge 57, 3) := by decide +kernel
theorem dX3_takeFrom_17 : decode cX3_takeFrom 17 = .ok (.aload_n 1, 1) := by decide +kernel
theorem dX3_takeFrom_18 : decode cX3_takeFrom 18 = .ok (.getfield 9, 3) := by decide +kernel
theorem dX3_takeFrom_21 : decode cX3_takeFrom 21 = .ok (.iload 4, 2) := by decide +kernel
theorem dX3_takeFrom_23 : decode cX3_takeFrom 23 = .ok (.iaload, 1) := by decide +kernel
theorem dX3_takeFrom_24 : decode cX3_takeFrom 24 = .ok (.istore 5, 2) := by decide +kernel
theorem dX3_takeFrom_26 : decode cX3_takeFrom 26 = .ok (.iload 5, 2) := by decide +kernel
theorem dX3_takeFrom_28 : decode cX3_takeFrom 28 = .ok (.iload_n 2, 1) := by decide +kernel
theorem dX3_takeFrom_29 : decode cX3_takeFrom 29 = .ok (.invokestatic 60, 3) := by decide +kernel
theorem dX3_takeFrom_32 : decode cX3_takeFrom 32 = .ok (.istore 6, 2) := by decide +kernel
theorem dX3_takeFrom_34 : decode cX3_takeFrom 34 = .ok (.iload_n 3, 1) := by decide +kernel
theorem dX3_takeFrom_35 : decode cX3_takeFrom 35 = .ok (.iconst 5, 1) := by decide +kernel
theorem dX3_takeFrom_36 : decode cX3_takeFrom 36 = .ok (.if_icmp .ne 13, 3) := by decide +kernel
theorem dX3_takeFrom_39 : decode cX3_takeFrom 39 = .ok (.aload_n 0, 1) := by decide +kernel
theorem dX3_takeFrom_40 : decode cX3_takeFrom 40 = .ok (.iload 5, 2) := by decide +kernel
theorem dX3_takeFrom_42 : decode cX3_takeFrom 42 = .ok (.iload_n 2, 1) := by decide +kernel
theorem dX3_takeFrom_43 : decode cX3_takeFrom 43 = .ok (.invokevirtual 63, 3) := by decide +kernel
theorem dX3_takeFrom_46 : decode cX3_takeFrom 46 = .ok (.goto 19, 3) := by decide +kernel
theorem dX3_takeFrom_49 : decode cX3_takeFrom 49 = .ok (.iload_n 3, 1) := by decide +kernel
theorem dX3_takeFrom_50 : decode cX3_takeFrom 50 = .ok (.iconst 3, 1) := by decide +kernel
theorem dX3_takeFrom_51 : decode cX3_takeFrom 51 = .ok (.if_icmp .ne 8, 3) := by decide +kernel
theorem dX3_takeFrom_54 : decode cX3_takeFrom 54 = .ok (.iload 6, 2) := by decide +kernel
theorem dX3_takeFrom_56 : decode cX3_takeFrom 56 = .ok (.ifCond .eq 9, 3) := by decide +kernel
theorem dX3_takeFrom_59 : decode cX3_takeFrom 59 = .ok (.aload_n 0, 1) := by decide +kernel
theorem dX3_takeFrom_60 : decode cX3_takeFrom 60 = .ok (.iload 6, 2) := by decide +kernel
theorem dX3_takeFrom_62 : decode cX3_takeFrom 62 = .ok (.invokevirtual 34, 3) := by decide +kernel
theorem dX3_takeFrom_65 : decode cX3_takeFrom 65 = .ok (.iinc 4 1, 3) := by decide +kernel
theorem dX3_takeFrom_68 : decode cX3_takeFrom 68 = .ok (.goto (-60), 3) := by decide +kernel
theorem dX3_takeFrom_71 : decode cX3_takeFrom 71 = .ok (.return_, 1) := by decide +kernel
theorem dX3_within_0 : decode cX3_within 0 = .ok (.iconst 0, 1) := by decide +kernel
theorem dX3_within_1 : decode cX3_within 1 = .ok (.istore_n 2, 1) := by decide +kernel
theorem dX3_within_2 : decode cX3_within 2 = .ok (.iconst 0, 1) := by decide +kernel
theorem dX3_within_3 : decode cX3_within 3 = .ok (.istore_n 3, 1) := by decide +kernel
theorem dX3_within_4 : decode cX3_within 4 = .ok (.iconst 0, 1) := by decide +kernel
theorem dX3_within_5 : decode cX3_within 5 = .ok (.istore 4, 2) := by decide +kernel
theorem dX3_within_7 : decode cX3_within 7 = .ok (.iload 4, 2) := by decide +kernel
theorem dX3_within_9 : decode cX3_within 9 = .ok (.bipush 6, 2) := by decide +kernel
theorem dX3_within_11 : decode cX3_within 11 = .ok (.if_icmp .ge 53, 3) := by decide +kernel
theorem dX3_within_14 : decode cX3_within 14 = .ok (.iload_n 0, 1) := by decide +kernel
theorem dX3_within_15 : decode cX3_within 15 = .ok (.iload 4, 2) := by decide +kernel
theorem dX3_within_17 : decode cX3_within 17 = .ok (.invokestatic 38, 3) := by decide +kernel
theorem dX3_within_20 : decode cX3_within 20 = .ok (.istore 5, 2) := by decide +kernel
theorem dX3_within_22 : decode cX3_within 22 = .ok (.iload 5, 2) := by decide +kernel
theorem dX3_within_24 : decode cX3_within 24 = .ok (.bipush (-3), 2) := by decide +kernel
theorem dX3_within_26 : decode cX3_within 26 = .ok (.if_icmp .ne 6, 3) := by decide +kernel
theorem dX3_within_29 : decode cX3_within 29 = .ok (.goto 35, 3) := by decide +kernel
theorem dX3_within_32 : decode cX3_within 32 = .ok (.iload_n 1, 1) := by decide +kernel
theorem dX3_within_33 : decode cX3_within 33 = .ok (.iconst 1, 1) := by decide +kernel
theorem dX3_within_34 : decode cX3_within 34 = .ok (.iload 5, 2) := by decide +kernel
theorem dX3_within_36 : decode cX3_within 36 = .ok (.ishl, 1) := by decide +kernel
theorem dX3_within_37 : decode cX3_within 37 = .ok (.iand, 1) := by decide +kernel
theorem dX3_within_38 : decode cX3_within 38 = .ok (.ifCond .ne 6, 3) := by decide +kernel
theorem dX3_within_41 : decode cX3_within 41 = .ok (.goto 17, 3) := by decide +kernel
theorem dX3_within_44 : decode cX3_within 44 = .ok (.iload_n 2, 1) := by decide +kernel
theorem dX3_within_45 : decode cX3_within 45 = .ok (.iload 5, 2) := by decide +kernel
theorem dX3_within_47 : decode cX3_within 47 = .ok (.iconst 1, 1) := by decide +kernel
theorem dX3_within_48 : decode cX3_within 48 = .ok (.iadd, 1) := by decide +kernel
theorem dX3_within_49 : decode cX3_within 49 = .ok (.iload_n 3, 1) := by decide +kernel
theorem dX3_within_50 : decode cX3_within 50 = .ok (.iconst 4, 1) := by decide +kernel
theorem dX3_within_51 : decode cX3_within 51 = .ok (.imul, 1) := by decide +kernel
theorem dX3_within_52 : decode cX3_within 52 = .ok (.ishl, 1) := by decide +kernel
theorem dX3_within_53 : decode cX3_within 53 = .ok (.ior, 1) := by decide +kernel
theorem dX3_within_54 : decode cX3_within 54 = .ok (.istore_n 2, 1) := by decide +kernel
theorem dX3_within_55 : decode cX3_within 55 = .ok (.iinc 3 1, 3) := by decide +kernel
theorem dX3_within_58 : decode cX3_within 58 = .ok (.iinc 4 1, 3) := by decide +kernel
theorem dX3_within_61 : decode cX3_within 61 = .ok (.goto (-54), 3) := by decide +kernel
theorem dX3_within_64 : decode cX3_within 64 = .ok (.iload_n 2, 1) := by decide +kernel
theorem dX3_within_65 : decode cX3_within 65 = .ok (.ireturn, 1) := by decide +kernel
theorem dX3_putStretches_0 : decode cX3_putStretches 0 = .ok (.iconst 0, 1) := by decide +kernel
theorem dX3_putStretches_1 : decode cX3_putStretches 1 = .ok (.istore_n 3, 1) := by decide +kernel
theorem dX3_putStretches_2 : decode cX3_putStretches 2 = .ok (.iconst 0, 1) := by decide +kernel
theorem dX3_putStretches_3 : decode cX3_putStretches 3 = .ok (.istore 4, 2) := by decide +kernel
theorem dX3_putStretches_5 : decode cX3_putStretches 5 = .ok (.iconst 0, 1) := by decide +kernel
theorem dX3_putStretches_6 : decode cX3_putStretches 6 = .ok (.istore 5, 2) := by decide +kernel
theorem dX3_putStretches_8 : decode cX3_putStretches 8 = .ok (.iload 5, 2) := by decide +kernel
theorem dX3_putStretches_10 : decode cX3_putStretches 10 = .ok (.bipush 6, 2) := by decide +kernel
theorem dX3_putStretches_12 : decode cX3_putStretches 12 = .ok (.if_icmp .gt 66, 3) := by decide +kernel
theorem dX3_putStretches_15 : decode cX3_putStretches 15 = .ok (.iload_n 1, 1) := by decide +kernel
theorem dX3_putStretches_16 : decode cX3_putStretches 16 = .ok (.iload 5, 2) := by decide +kernel
theorem dX3_putStretches_18 : decode cX3_putStretches 18 = .ok (.invokestatic 38, 3) := by decide +kernel
theorem dX3_putStretches_21 : decode cX3_putStretches 21 = .ok (.istore 6, 2) := by decide +kernel
theorem dX3_putStretches_23 : decode cX3_putStretches 23 = .ok (.iload 6, 2) := by decide +kernel
theorem dX3_putStretches_25 : decode cX3_putStretches 25 = .ok (.bipush (-3), 2) := by decide +kernel
theorem dX3_putStretches_27 : decode cX3_putStretches 27 = .ok (.if_icmp .eq 30, 3) := by decide +kernel
theorem dX3_putStretches_30 : decode cX3_putStretches 30 = .ok (.iload_n 2, 1) := by decide +kernel
theorem dX3_putStretches_31 : decode cX3_putStretches 31 = .ok (.iconst 1, 1) := by decide +kernel
theorem dX3_putStretches_32 : decode cX3_putStretches 32 = .ok (.iload 6, 2) := by decide +kernel
theorem dX3_putStretches_34 : decode cX3_putStretches 34 = .ok (.ishl, 1) := by decide +kernel
theorem dX3_putStretches_35 : decode cX3_putStretches 35 = .ok (.iand, 1) := by decide +kernel
theorem dX3_putStretches_36 : decode cX3_putStretches 36 = .ok (.ifCond .eq 21, 3) := by decide +kernel
theorem dX3_putStretches_39 : decode cX3_putStretches 39 = .ok (.iload_n 3, 1) := by decide +kernel
theorem dX3_putStretches_40 : decode cX3_putStretches 40 = .ok (.iload 6, 2) := by decide +kernel
theorem dX3_putStretches_42 : decode cX3_putStretches 42 = .ok (.iconst 1, 1) := by decide +kernel
theorem dX3_putStretches_43 : decode cX3_putStretches 43 = .ok (.iadd, 1) := by decide +kernel
theorem dX3_putStretches_44 : decode cX3_putStretches 44 = .ok (.iload 4, 2) := by decide +kernel
theorem dX3_putStretches_46 : decode cX3_putStretches 46 = .ok (.iconst 4, 1) := by decide +kernel
theorem dX3_putStretches_47 : decode cX3_putStretches 47 = .ok (.imul, 1) := by decide +kernel
theorem dX3_putStretches_48 : decode cX3_putStretches 48 = .ok (.ishl, 1) := by decide +kernel
theorem dX3_putStretches_49 : decode cX3_putStretches 49 = .ok (.ior, 1) := by decide +kernel
theorem dX3_putStretches_50 : decode cX3_putStretches 50 = .ok (.istore_n 3, 1) := by decide +kernel
theorem dX3_putStretches_51 : decode cX3_putStretches 51 = .ok (.iinc 4 1, 3) := by decide +kernel
theorem dX3_putStretches_54 : decode cX3_putStretches 54 = .ok (.goto 18, 3) := by decide +kernel
theorem dX3_putStretches_57 : decode cX3_putStretches 57 = .ok (.iload 4, 2) := by decide +kernel
theorem dX3_putStretches_59 : decode cX3_putStretches 59 = .ok (.ifCond .le 8, 3) := by decide +kernel
theorem dX3_putStretches_62 : decode cX3_putStretches 62 = .ok (.aload_n 0, 1) := by decide +kernel
theorem dX3_putStretches_63 : decode cX3_putStretches 63 = .ok (.iload_n 3, 1) := by decide +kernel
theorem dX3_putStretches_64 : decode cX3_putStretches 64 = .ok (.invokevirtual 34, 3) := by decide +kernel
theorem dX3_putStretches_67 : decode cX3_putStretches 67 = .ok (.iconst 0, 1) := by decide +kernel
theorem dX3_putStretches_68 : decode cX3_putStretches 68 = .ok (.istore_n 3, 1) := by decide +kernel
theorem dX3_putStretches_69 : decode cX3_putStretches 69 = .ok (.iconst 0, 1) := by decide +kernel
theorem dX3_putStretches_70 : decode cX3_putStretches 70 = .ok (.istore 4, 2) := by decide +kernel
theorem dX3_putStretches_72 : decode cX3_putStretches 72 = .ok (.iinc 5 1, 3) := by decide +kernel
theorem dX3_putStretches_75 : decode cX3_putStretches 75 = .ok (.goto (-67), 3) := by decide +kernel
theorem dX3_putStretches_78 : decode cX3_putStretches 78 = .ok (.return_, 1) := by decide +kernel
theorem dX3_cutsTo_0 : decode cX3_cutsTo 0 = .ok (.aload_n 0, 1) := by decide +kernel
theorem dX3_cutsTo_1 : decode cX3_cutsTo 1 = .ok (.invokevirtual 67, 3) := by decide +kernel
theorem dX3_cutsTo_4 : decode cX3_cutsTo 4 = .ok (.ifCond .eq 5, 3) := by decide +kernel
theorem dX3_cutsTo_7 : decode cX3_cutsTo 7 = .ok (.iconst 3, 1) := by decide +kernel
theorem dX3_cutsTo_8 : decode cX3_cutsTo 8 = .ok (.ireturn, 1) := by decide +kernel
theorem dX3_cutsTo_9 : decode cX3_cutsTo 9 = .ok (.aload_n 0, 1) := by decide +kernel
theorem dX3_cutsTo_10 : decode cX3_cutsTo 10 = .ok (.invokevirtual 71, 3) := by decide +kernel
theorem dX3_cutsTo_13 : decode cX3_cutsTo 13 = .ok (.ifCond .eq 5, 3) := by decide +kernel
theorem dX3_cutsTo_16 : decode cX3_cutsTo 16 = .ok (.iconst 2, 1) := by decide +kernel
theorem dX3_cutsTo_17 : decode cX3_cutsTo 17 = .ok (.ireturn, 1) := by decide +kernel
theorem dX3_cutsTo_18 : decode cX3_cutsTo 18 = .ok (.aload_n 0, 1) := by decide +kernel
theorem dX3_cutsTo_19 : decode cX3_cutsTo 19 = .ok (.invokevirtual 74, 3) := by decide +kernel
theorem dX3_cutsTo_22 : decode cX3_cutsTo 22 = .ok (.ifCond .eq 5, 3) := by decide +kernel
theorem dX3_cutsTo_25 : decode cX3_cutsTo 25 = .ok (.iconst 4, 1) := by decide +kernel
theorem dX3_cutsTo_26 : decode cX3_cutsTo 26 = .ok (.ireturn, 1) := by decide +kernel
theorem dX3_cutsTo_27 : decode cX3_cutsTo 27 = .ok (.aload_n 0, 1) := by decide +kernel
theorem dX3_cutsTo_28 : decode cX3_cutsTo 28 = .ok (.invokevirtual 77, 3) := by decide +kernel
theorem dX3_cutsTo_31 : decode cX3_cutsTo 31 = .ok (.ifCond .eq 5, 3) := by decide +kernel
theorem dX3_cutsTo_34 : decode cX3_cutsTo 34 = .ok (.iconst 5, 1) := by decide +kernel
theorem dX3_cutsTo_35 : decode cX3_cutsTo 35 = .ok (.ireturn, 1) := by decide +kernel
theorem dX3_cutsTo_36 : decode cX3_cutsTo 36 = .ok (.bipush (-3), 2) := by decide +kernel
theorem dX3_cutsTo_38 : decode cX3_cutsTo 38 = .ok (.ireturn, 1) := by decide +kernel
theorem dX3_partByNear_0 : decode cX3_partByNear 0 = .ok (.aload_n 0, 1) := by decide +kernel
theorem dX3_partByNear_1 : decode cX3_partByNear 1 = .ok (.iconst 0, 1) := by decide +kernel
theorem dX3_partByNear_2 : decode cX3_partByNear 2 = .ok (.putfield 80, 3) := by decide +kernel
theorem dX3_partByNear_5 : decode cX3_partByNear 5 = .ok (.iload_n 1, 1) := by decide +kernel
theorem dX3_partByNear_6 : decode cX3_partByNear 6 = .ok (.istore_n 2, 1) := by decide +kernel
theorem dX3_partByNear_7 : decode cX3_partByNear 7 = .ok (.iconst 0, 1) := by decide +kernel
theorem dX3_partByNear_8 : decode cX3_partByNear 8 = .ok (.istore_n 3, 1) := by decide +kernel
theorem dX3_partByNear_9 : decode cX3_partByNear 9 = .ok (.iload_n 3, 1) := by decide +kernel
theorem dX3_partByNear_10 : decode cX3_partByNear 10 = .ok (.bipush 12, 2) := by decide +kernel
theorem dX3_partByNear_12 : decode cX3_partByNear 12 = .ok (.if_icmp .ge 74, 3) := by decide +kernel
theorem dX3_partByNear_15 : decode cX3_partByNear 15 = .ok (.iload_n 2, 1) := by decide +kernel
theorem dX3_partByNear_16 : decode cX3_partByNear 16 = .ok (.iconst 1, 1) := by decide +kernel
theorem dX3_partByNear_17 : decode cX3_partByNear 17 = .ok (.iload_n 3, 1) := by decide +kernel
theorem dX3_partByNear_18 : decode cX3_partByNear 18 = .ok (.ishl, 1) := by decide +kernel
theorem dX3_partByNear_19 : decode cX3_partByNear 19 = .ok (.iand, 1) := by decide +kernel
theorem dX3_partByNear_20 : decode cX3_partByNear 20 = .ok (.ifCond .eq 60, 3) := by decide +kernel
theorem dX3_partByNear_23 : decode cX3_partByNear 23 = .ok (.aload_n 0, 1) := by decide +kernel
theorem dX3_partByNear_24 : decode cX3_partByNear 24 = .ok (.getfield 80, 3) := by decide +kernel
theorem dX3_partByNear_27 : decode cX3_partByNear 27 = .ok (.aload_n 0, 1) := by decide +kernel
theorem dX3_partByNear_28 : decode cX3_partByNear 28 = .ok (.getfield 27, 3) := by decide +kernel
theorem dX3_partByNear_31 : decode cX3_partByNear 31 = .ok (.arraylength, 1) := by decide +kernel
theorem dX3_partByNear_32 : decode cX3_partByNear 32 = .ok (.if_icmp .lt 6, 3) := by decide +kernel
theorem dX3_partByNear_35 : decode cX3_partByNear 35 = .ok (.goto 45, 3) := by decide +kernel
theorem dX3_partByNear_38 : decode cX3_partByNear 38 = .ok (.iconst 1, 1) := by decide +kernel
theorem dX3_partByNear_39 : decode cX3_partByNear 39 = .ok (.iload_n 3, 1) := by decide +kernel
theorem dX3_partByNear_40 : decode cX3_partByNear 40 = .ok (.ishl, 1) := by decide +kernel
theorem dX3_partByNear_41 : decode cX3_partByNear 41 = .ok (.aload_n 0, 1) := by decide +kernel
theorem dX3_partByNear_42 : decode cX3_partByNear 42 = .ok (.getfield 21, 3) := by decide +kernel
theorem dX3_partByNear_45 : decode cX3_partByNear 45 = .ok (.invokestatic 83, 3) := by decide +kernel
theorem dX3_partByNear_48 : decode cX3_partByNear 48 = .ok (.iload_n 1, 1) := by decide +kernel
theorem dX3_partByNear_49 : decode cX3_partByNear 49 = .ok (.iand, 1) := by decide +kernel
theorem dX3_partByNear_50 : decode cX3_partByNear 50 = .ok (.istore 4, 2) := by decide +kernel
theorem dX3_partByNear_52 : decode cX3_partByNear 52 = .ok (.aload_n 0, 1) := by decide +kernel
theorem dX3_partByNear_53 : decode cX3_partByNear 53 = .ok (.getfield 27, 3) := by decide +kernel
theorem dX3_partByNear_56 : decode cX3_partByNear 56 = .ok (.aload_n 0, 1) := by decide +kernel
theorem dX3_partByNear_57 : decode cX3_partByNear 57 = .ok (.getfield 80, 3) := by decide +kernel
theorem dX3_partByNear_60 : decode cX3_partByNear 60 = .ok (.iload 4, 2) := by decide +kernel
theorem dX3_partByNear_62 : decode cX3_partByNear 62 = .ok (.iastore, 1) := by decide +kernel
theorem dX3_partByNear_63 : decode cX3_partByNear 63 = .ok (.aload_n 0, 1) := by decide +kernel
theorem dX3_partByNear_64 : decode cX3_partByNear 64 = .ok (.dup, 1) := by decide +kernel
theorem dX3_partByNear_65 : decode cX3_partByNear 65 = .ok (.getfield 80, 3) := by decide +kernel
theorem dX3_partByNear_68 : decode cX3_partByNear 68 = .ok (.iconst 1, 1) := by decide +kernel
theorem dX3_partByNear_69 : decode cX3_partByNear 69 = .ok (.iadd, 1) := by decide +kernel
theorem dX3_partByNear_70 : decode cX3_partByNear 70 = .ok (.putfield 80, 3) := by decide +kernel
theorem dX3_partByNear_73 : decode cX3_partByNear 73 = .ok (.iload_n 2, 1) := by decide +kernel
theorem dX3_partByNear_74 : decode cX3_partByNear 74 = .ok (.iload 4, 2) := by decide +kernel
theorem dX3_partByNear_76 : decode cX3_partByNear 76 = .ok (.iconst (-1), 1) := by decide +kernel
theorem dX3_partByNear_77 : decode cX3_partByNear 77 = .ok (.ixor, 1) := by decide +kernel
theorem dX3_partByNear_78 : decode cX3_partByNear 78 = .ok (.iand, 1) := by decide +kernel
theorem dX3_partByNear_79 : decode cX3_partByNear 79 = .ok (.istore_n 2, 1) := by decide +kernel
theorem dX3_partByNear_80 : decode cX3_partByNear 80 = .ok (.iinc 3 1, 3) := by decide +kernel
theorem dX3_partByNear_83 : decode cX3_partByNear 83 = .ok (.goto (-74), 3) := by decide +kernel
theorem dX3_partByNear_86 : decode cX3_partByNear 86 = .ok (.return_, 1) := by decide +kernel
theorem dX3_closed_0 : decode cX3_closed 0 = .ok (.iload_n 0, 1) := by decide +kernel
theorem dX3_closed_1 : decode cX3_closed 1 = .ok (.istore_n 2, 1) := by decide +kernel
theorem dX3_closed_2 : decode cX3_closed 2 = .ok (.iconst 0, 1) := by decide +kernel
theorem dX3_closed_3 : decode cX3_closed 3 = .ok (.istore_n 3, 1) := by decide +kernel
theorem dX3_closed_4 : decode cX3_closed 4 = .ok (.iload_n 3, 1) := by decide +kernel
theorem dX3_closed_5 : decode cX3_closed 5 = .ok (.bipush 12, 2) := by decide +kernel
theorem dX3_closed_7 : decode cX3_closed 7 = .ok (.if_icmp .ge 48, 3) := by decide +kernel
theorem dX3_closed_10 : decode cX3_closed 10 = .ok (.iconst 0, 1) := by decide +kernel
theorem dX3_closed_11 : decode cX3_closed 11 = .ok (.istore 4, 2) := by decide +kernel
theorem dX3_closed_13 : decode cX3_closed 13 = .ok (.iload 4, 2) := by decide +kernel
theorem dX3_closed_15 : decode cX3_closed 15 = .ok (.bipush 12, 2) := by decide +kernel
theorem dX3_closed_17 : decode cX3_closed 17 = .ok (.if_icmp .ge 32, 3) := by decide +kernel
theorem dX3_closed_20 : decode cX3_closed 20 = .ok (.iload 4, 2) := by decide +kernel
theorem dX3_closed_22 : decode cX3_closed 22 = .ok (.aload_n 1, 1) := by decide +kernel
theorem dX3_closed_23 : decode cX3_closed 23 = .ok (.arraylength, 1) := by decide +kernel
theorem dX3_closed_24 : decode cX3_closed 24 = .ok (.if_icmp .ge 25, 3) := by decide +kernel
theorem dX3_closed_27 : decode cX3_closed 27 = .ok (.iload_n 2, 1) := by decide +kernel
theorem dX3_closed_28 : decode cX3_closed 28 = .ok (.iconst 1, 1) := by decide +kernel
theorem dX3_closed_29 : decode cX3_closed 29 = .ok (.iload 4, 2) := by decide +kernel
theorem dX3_closed_31 : decode cX3_closed 31 = .ok (.ishl, 1) := by decide +kernel
theorem dX3_closed_32 : decode cX3_closed 32 = .ok (.iand, 1) := by decide +kernel
theorem dX3_closed_33 : decode cX3_closed 33 = .ok (.ifCond .eq 10, 3) := by decide +kernel
theorem dX3_closed_36 : decode cX3_closed 36 = .ok (.iload_n 2, 1) := by decide +kernel
theorem dX3_closed_37 : decode cX3_closed 37 = .ok (.aload_n 1, 1) := by decide +kernel
theorem dX3_closed_38 : decode cX3_closed 38 = .ok (.iload 4, 2) := by decide +kernel
theorem dX3_closed_40 : decode cX3_closed 40 = .ok (.iaload, 1) := by decide +kernel
theorem dX3_closed_41 : decode cX3_closed 41 = .ok (.ior, 1) := by decide +kernel
theorem dX3_closed_42 : decode cX3_closed 42 = .ok (.istore_n 2, 1) := by decide +kernel
theorem dX3_closed_43 : decode cX3_closed 43 = .ok (.iinc 4 1, 3) := by decide +kernel
theorem dX3_closed_46 : decode cX3_closed 46 = .ok (.goto (-33), 3) := by decide +kernel
theorem dX3_closed_49 : decode cX3_closed 49 = .ok (.iinc 3 1, 3) := by decide +kernel
theorem dX3_closed_52 : decode cX3_closed 52 = .ok (.goto (-48), 3) := by decide +kernel
theorem dX3_closed_55 : decode cX3_closed 55 = .ok (.iload_n 2, 1) := by decide +kernel
theorem dX3_closed_56 : decode cX3_closed 56 = .ok (.ireturn, 1) := by decide +kernel
theorem dX3_cutsToChoice_0 : decode cX3_cutsToChoice 0 = .ok (.iconst 0, 1) := by decide +kernel
theorem dX3_cutsToChoice_1 : decode cX3_cutsToChoice 1 = .ok (.istore_n 1, 1) := by decide +kernel
theorem dX3_cutsToChoice_2 : decode cX3_cutsToChoice 2 = .ok (.iload_n 1, 1) := by decide +kernel
theorem dX3_cutsToChoice_3 : decode cX3_cutsToChoice 3 = .ok (.bipush 12, 2) := by decide +kernel
theorem dX3_cutsToChoice_5 : decode cX3_cutsToChoice 5 = .ok (.if_icmp .ge 28, 3) := by decide +kernel
theorem dX3_cutsToChoice_8 : decode cX3_cutsToChoice 8 = .ok (.aload_n 0, 1) := by decide +kernel
theorem dX3_cutsToChoice_9 : decode cX3_cutsToChoice 9 = .ok (.getfield 21, 3) := by decide +kernel
theorem dX3_cutsToChoice_12 : decode cX3_cutsToChoice 12 = .ok (.iload_n 1, 1) := by decide +kernel
theorem dX3_cutsToChoice_13 : decode cX3_cutsToChoice 13 = .ok (.aload_n 0, 1) := by decide +kernel
theorem dX3_cutsToChoice_14 : decode cX3_cutsToChoice 14 = .ok (.getfield 15, 3) := by decide +kernel
theorem dX3_cutsToChoice_17 : decode cX3_cutsToChoice 17 = .ok (.iload_n 1, 1) := by decide +kernel
theorem dX3_cutsToChoice_18 : decode cX3_cutsToChoice 18 = .ok (.iaload, 1) := by decide +kernel
theorem dX3_cutsToChoice_19 : decode cX3_cutsToChoice 19 = .ok (.aload_n 0, 1) := by decide +kernel
theorem dX3_cutsToChoice_20 : decode cX3_cutsToChoice 20 = .ok (.getfield 18, 3) := by decide +kernel
theorem dX3_cutsToChoice_23 : decode cX3_cutsToChoice 23 = .ok (.iload_n 1, 1) := by decide +kernel
theorem dX3_cutsToChoice_24 : decode cX3_cutsToChoice 24 = .ok (.iaload, 1) := by decide +kernel
theorem dX3_cutsToChoice_25 : decode cX3_cutsToChoice 25 = .ok (.ior, 1) := by decide +kernel
theorem dX3_cutsToChoice_26 : decode cX3_cutsToChoice 26 = .ok (.iastore, 1) := by decide +kernel
theorem dX3_cutsToChoice_27 : decode cX3_cutsToChoice 27 = .ok (.iinc 1 1, 3) := by decide +kernel
theorem dX3_cutsToChoice_30 : decode cX3_cutsToChoice 30 = .ok (.goto (-28), 3) := by decide +kernel
theorem dX3_cutsToChoice_33 : decode cX3_cutsToChoice 33 = .ok (.aload_n 0, 1) := by decide +kernel
theorem dX3_cutsToChoice_34 : decode cX3_cutsToChoice 34 = .ok (.aload_n 0, 1) := by decide +kernel
theorem dX3_cutsToChoice_35 : decode cX3_cutsToChoice 35 = .ok (.getfield 42, 3) := by decide +kernel
theorem dX3_cutsToChoice_38 : decode cX3_cutsToChoice 38 = .ok (.invokevirtual 87, 3) := by decide +kernel
theorem dX3_cutsToChoice_41 : decode cX3_cutsToChoice 41 = .ok (.aload_n 0, 1) := by decide +kernel
theorem dX3_cutsToChoice_42 : decode cX3_cutsToChoice 42 = .ok (.getfield 80, 3) := by decide +kernel
theorem dX3_cutsToChoice_45 : decode cX3_cutsToChoice 45 = .ok (.iconst 1, 1) := by decide +kernel
theorem dX3_cutsToChoice_46 : decode cX3_cutsToChoice 46 = .ok (.if_icmp .le 7, 3) := by decide +kernel
theorem dX3_cutsToChoice_49 : decode cX3_cutsToChoice 49 = .ok (.iconst 1, 1) := by decide +kernel
theorem dX3_cutsToChoice_50 : decode cX3_cutsToChoice 50 = .ok (.goto 4, 3) := by decide +kernel
theorem dX3_cutsToChoice_53 : decode cX3_cutsToChoice 53 = .ok (.iconst 0, 1) := by decide +kernel
theorem dX3_cutsToChoice_54 : decode cX3_cutsToChoice 54 = .ok (.ireturn, 1) := by decide +kernel
theorem dX3_cutsToRow_0 : decode cX3_cutsToRow 0 = .ok (.iconst 0, 1) := by decide +kernel
theorem dX3_cutsToRow_1 : decode cX3_cutsToRow 1 = .ok (.istore_n 1, 1) := by decide +kernel
theorem dX3_cutsToRow_2 : decode cX3_cutsToRow 2 = .ok (.iload_n 1, 1) := by decide +kernel
theorem dX3_cutsToRow_3 : decode cX3_cutsToRow 3 = .ok (.bipush 12, 2) := by decide +kernel
theorem dX3_cutsToRow_5 : decode cX3_cutsToRow 5 = .ok (.if_icmp .ge 28, 3) := by decide +kernel
theorem dX3_cutsToRow_8 : decode cX3_cutsToRow 8 = .ok (.aload_n 0, 1) := by decide +kernel
theorem dX3_cutsToRow_9 : decode cX3_cutsToRow 9 = .ok (.getfield 24, 3) := by decide +kernel
theorem dX3_cutsToRow_12 : decode cX3_cutsToRow 12 = .ok (.iload_n 1, 1) := by decide +kernel
theorem dX3_cutsToRow_13 : decode cX3_cutsToRow 13 = .ok (.aload_n 0, 1) := by decide +kernel
theorem dX3_cutsToRow_14 : decode cX3_cutsToRow 14 = .ok (.getfield 15, 3) := by decide +kernel
theorem dX3_cutsToRow_17 : decode cX3_cutsToRow 17 = .ok (.iload_n 1, 1) := by decide +kernel
theorem dX3_cutsToRow_18 : decode cX3_cutsToRow 18 = .ok (.iaload, 1) := by decide +kernel
theorem dX3_cutsToRow_19 : decode cX3_cutsToRow 19 = .ok (.aload_n 0, 1) := by decide +kernel
theorem dX3_cutsToRow_20 : decode cX3_cutsToRow 20 = .ok (.getfield 15, 3) := by decide +kernel
theorem dX3_cutsToRow_23 : decode cX3_cutsToRow 23 = .ok (.invokestatic 83, 3) := by decide +kernel
theorem dX3_cutsToRow_26 : decode cX3_cutsToRow 26 = .ok (.iastore, 1) := by decide +kernel
theorem dX3_cutsToRow_27 : decode cX3_cutsToRow 27 = .ok (.iinc 1 1, 3) := by decide +kernel
theorem dX3_cutsToRow_30 : decode cX3_cutsToRow 30 = .ok (.goto (-28), 3) := by decide +kernel
theorem dX3_cutsToRow_33 : decode cX3_cutsToRow 33 = .ok (.iconst 0, 1) := by decide +kernel
theorem dX3_cutsToRow_34 : decode cX3_cutsToRow 34 = .ok (.istore_n 1, 1) := by decide +kernel
theorem dX3_cutsToRow_35 : decode cX3_cutsToRow 35 = .ok (.iload_n 1, 1) := by decide +kernel
theorem dX3_cutsToRow_36 : decode cX3_cutsToRow 36 = .ok (.bipush 12, 2) := by decide +kernel
theorem dX3_cutsToRow_38 : decode cX3_cutsToRow 38 = .ok (.if_icmp .ge 92, 3) := by decide +kernel
theorem dX3_cutsToRow_41 : decode cX3_cutsToRow 41 = .ok (.aload_n 0, 1) := by decide +kernel
theorem dX3_cutsToRow_42 : decode cX3_cutsToRow 42 = .ok (.getfield 21, 3) := by decide +kernel
theorem dX3_cutsToRow_45 : decode cX3_cutsToRow 45 = .ok (.iload_n 1, 1) := by decide +kernel
theorem dX3_cutsToRow_46 : decode cX3_cutsToRow 46 = .ok (.iconst 0, 1) := by decide +kernel
theorem dX3_cutsToRow_47 : decode cX3_cutsToRow 47 = .ok (.iastore, 1) := by decide +kernel
theorem dX3_cutsToRow_48 : decode cX3_cutsToRow 48 = .ok (.iconst 0, 1) := by decide +kernel
theorem dX3_cutsToRow_49 : decode cX3_cutsToRow 49 = .ok (.istore_n 2, 1) := by decide +kernel
theorem dX3_cutsToRow_50 : decode cX3_cutsToRow 50 = .ok (.iload_n 2, 1) := by decide +kernel
theorem dX3_cutsToRow_51 : decode cX3_cutsToRow 51 = .ok (.bipush 12, 2) := by decide +kernel
theorem dX3_cutsToRow_53 : decode cX3_cutsToRow 53 = .ok (.if_icmp .ge 71, 3) := by decide +kernel
theorem dX3_cutsToRow_56 : decode cX3_cutsToRow 56 = .ok (.aload_n 0, 1) := by decide +kernel
theorem dX3_cutsToRow_57 : decode cX3_cutsToRow 57 = .ok (.getfield 24, 3) := by decide +kernel
theorem dX3_cutsToRow_60 : decode cX3_cutsToRow 60 = .ok (.iload_n 1, 1) := by decide +kernel
theorem dX3_cutsToRow_61 : decode cX3_cutsToRow 61 = .ok (.iaload, 1) := by decide +kernel
theorem dX3_cutsToRow_62 : decode cX3_cutsToRow 62 = .ok (.iconst 1, 1) := by decide +kernel
theorem dX3_cutsToRow_63 : decode cX3_cutsToRow 63 = .ok (.iload_n 2, 1) := by decide +kernel
theorem dX3_cutsToRow_64 : decode cX3_cutsToRow 64 = .ok (.ishl, 1) := by decide +kernel
theorem dX3_cutsToRow_65 : decode cX3_cutsToRow 65 = .ok (.iand, 1) := by decide +kernel
theorem dX3_cutsToRow_66 : decode cX3_cutsToRow 66 = .ok (.ifCond .eq 7, 3) := by decide +kernel
theorem dX3_cutsToRow_69 : decode cX3_cutsToRow 69 = .ok (.iconst 1, 1) := by decide +kernel
theorem dX3_cutsToRow_70 : decode cX3_cutsToRow 70 = .ok (.goto 4, 3) := by decide +kernel
theorem dX3_cutsToRow_73 : decode cX3_cutsToRow 73 = .ok (.iconst 0, 1) := by decide +kernel
theorem dX3_cutsToRow_74 : decode cX3_cutsToRow 74 = .ok (.istore_n 3, 1) := by decide +kernel
theorem dX3_cutsToRow_75 : decode cX3_cutsToRow 75 = .ok (.aload_n 0, 1) := by decide +kernel
theorem dX3_cutsToRow_76 : decode cX3_cutsToRow 76 = .ok (.getfield 24, 3) := by decide +kernel
theorem dX3_cutsToRow_79 : decode cX3_cutsToRow 79 = .ok (.iload_n 2, 1) := by decide +kernel
theorem dX3_cutsToRow_80 : decode cX3_cutsToRow 80 = .ok (.iaload, 1) := by decide +kernel
theorem dX3_cutsToRow_81 : decode cX3_cutsToRow 81 = .ok (.iconst 1, 1) := by decide +kernel
theorem dX3_cutsToRow_82 : decode cX3_cutsToRow 82 = .ok (.iload_n 1, 1) := by decide +kernel
theorem dX3_cutsToRow_83 : decode cX3_cutsToRow 83 = .ok (.ishl, 1) := by decide +kernel
theorem dX3_cutsToRow_84 : decode cX3_cutsToRow 84 = .ok (.iand, 1) := by decide +kernel
theorem dX3_cutsToRow_85 : decode cX3_cutsToRow 85 = .ok (.ifCond .eq 7, 3) := by decide +kernel
theorem dX3_cutsToRow_88 : decode cX3_cutsToRow 88 = .ok (.iconst 1, 1) := by decide +kernel
theorem dX3_cutsToRow_89 : decode cX3_cutsToRow 89 = .ok (.goto 4, 3) := by decide +kernel
theorem dX3_cutsToRow_92 : decode cX3_cutsToRow 92 = .ok (.iconst 0, 1) := by decide +kernel
theorem dX3_cutsToRow_93 : decode cX3_cutsToRow 93 = .ok (.istore 4, 2) := by decide +kernel
theorem dX3_cutsToRow_95 : decode cX3_cutsToRow 95 = .ok (.iload_n 3, 1) := by decide +kernel
theorem dX3_cutsToRow_96 : decode cX3_cutsToRow 96 = .ok (.iload 4, 2) := by decide +kernel
theorem dX3_cutsToRow_98 : decode cX3_cutsToRow 98 = .ok (.if_icmp .ne 20, 3) := by decide +kernel
theorem dX3_cutsToRow_101 : decode cX3_cutsToRow 101 = .ok (.aload_n 0, 1) := by decide +kernel
theorem dX3_cutsToRow_102 : decode cX3_cutsToRow 102 = .ok (.getfield 21, 3) := by decide +kernel
theorem dX3_cutsToRow_105 : decode cX3_cutsToRow 105 = .ok (.iload_n 1, 1) := by decide +kernel
theorem dX3_cutsToRow_106 : decode cX3_cutsToRow 106 = .ok (.dup2, 1) := by decide +kernel
theorem dX3_cutsToRow_107 : decode cX3_cutsToRow 107 = .ok (.iaload, 1) := by decide +kernel
theorem dX3_cutsToRow_108 : decode cX3_cutsToRow 108 = .ok (.aload_n 0, 1) := by decide +kernel
theorem dX3_cutsToRow_109 : decode cX3_cutsToRow 109 = .ok (.getfield 42, 3) := by decide +kernel
theorem dX3_cutsToRow_112 : decode cX3_cutsToRow 112 = .ok (.iconst 1, 1) := by decide +kernel
theorem dX3_cutsToRow_113 : decode cX3_cutsToRow 113 = .ok (.iload_n 2, 1) := by decide +kernel
theorem dX3_cutsToRow_114 : decode cX3_cutsToRow 114 = .ok (.ishl, 1) := by decide +kernel
theorem dX3_cutsToRow_115 : decode cX3_cutsToRow 115 = .ok (.iand, 1) := by decide +kernel
theorem dX3_cutsToRow_116 : decode cX3_cutsToRow 116 = .ok (.ior, 1) := by decide +kernel
theorem dX3_cutsToRow_117 : decode cX3_cutsToRow 117 = .ok (.iastore, 1) := by decide +kernel
theorem dX3_cutsToRow_118 : decode cX3_cutsToRow 118 = .ok (.iinc 2 1, 3) := by decide +kernel
theorem dX3_cutsToRow_121 : decode cX3_cutsToRow 121 = .ok (.goto (-71), 3) := by decide +kernel
theorem dX3_cutsToRow_124 : decode cX3_cutsToRow 124 = .ok (.iinc 1 1, 3) := by decide +kernel
theorem dX3_cutsToRow_127 : decode cX3_cutsToRow 127 = .ok (.goto (-92), 3) := by decide +kernel
theorem dX3_cutsToRow_130 : decode cX3_cutsToRow 130 = .ok (.aload_n 0, 1) := by decide +kernel
theorem dX3_cutsToRow_131 : decode cX3_cutsToRow 131 = .ok (.aload_n 0, 1) := by decide +kernel
theorem dX3_cutsToRow_132 : decode cX3_cutsToRow 132 = .ok (.getfield 42, 3) := by decide +kernel
theorem dX3_cutsToRow_135 : decode cX3_cutsToRow 135 = .ok (.invokevirtual 87, 3) := by decide +kernel
theorem dX3_cutsToRow_138 : decode cX3_cutsToRow 138 = .ok (.aload_n 0, 1) := by decide +kernel
theorem dX3_cutsToRow_139 : decode cX3_cutsToRow 139 = .ok (.invokevirtual 90, 3) := by decide +kernel
theorem dX3_cutsToRow_142 : decode cX3_cutsToRow 142 = .ok (.aload_n 0, 1) := by decide +kernel
theorem dX3_cutsToRow_143 : decode cX3_cutsToRow 143 = .ok (.getfield 80, 3) := by decide +kernel
theorem dX3_cutsToRow_146 : decode cX3_cutsToRow 146 = .ok (.iconst 1, 1) := by decide +kernel
theorem dX3_cutsToRow_147 : decode cX3_cutsToRow 147 = .ok (.if_icmp .le 7, 3) := by decide +kernel
theorem dX3_cutsToRow_150 : decode cX3_cutsToRow 150 = .ok (.iconst 1, 1) := by decide +kernel
theorem dX3_cutsToRow_151 : decode cX3_cutsToRow 151 = .ok (.goto 4, 3) := by decide +kernel
theorem dX3_cutsToRow_154 : decode cX3_cutsToRow 154 = .ok (.iconst 0, 1) := by decide +kernel
theorem dX3_cutsToRow_155 : decode cX3_cutsToRow 155 = .ok (.ireturn, 1) := by decide +kernel
theorem dX3_orderByReach_0 : decode cX3_orderByReach 0 = .ok (.iconst 1, 1) := by decide +kernel
theorem dX3_orderByReach_1 : decode cX3_orderByReach 1 = .ok (.istore_n 1, 1) := by decide +kernel
theorem dX3_orderByReach_2 : decode cX3_orderByReach 2 = .ok (.iload_n 1, 1) := by decide +kernel
theorem dX3_orderByReach_3 : decode cX3_orderByReach 3 = .ok (.aload_n 0, 1) := by decide +kernel
theorem dX3_orderByReach_4 : decode cX3_orderByReach 4 = .ok (.getfield 80, 3) := by decide +kernel
theorem dX3_orderByReach_7 : decode cX3_orderByReach 7 = .ok (.if_icmp .ge 65, 3) := by decide +kernel
theorem dX3_orderByReach_10 : decode cX3_orderByReach 10 = .ok (.aload_n 0, 1) := by decide +kernel
theorem dX3_orderByReach_11 : decode cX3_orderByReach 11 = .ok (.getfield 27, 3) := by decide +kernel
theorem dX3_orderByReach_14 : decode cX3_orderByReach 14 = .ok (.iload_n 1, 1) := by decide +kernel
theorem dX3_orderByReach_15 : decode cX3_orderByReach 15 = .ok (.iaload, 1) := by decide +kernel
theorem dX3_orderByReach_16 : decode cX3_orderByReach 16 = .ok (.istore_n 2, 1) := by decide +kernel
theorem dX3_orderByReach_17 : decode cX3_orderByReach 17 = .ok (.iload_n 1, 1) := by decide +kernel
theorem dX3_orderByReach_18 : decode cX3_orderByReach 18 = .ok (.istore_n 3, 1) := by decide +kernel
theorem dX3_orderByReach_19 : decode cX3_orderByReach 19 = .ok (.iload_n 3, 1) := by decide +kernel
theorem dX3_orderByReach_20 : decode cX3_orderByReach 20 = .ok (.ifCond .le 39, 3) := by decide +kernel
theorem dX3_orderByReach_23 : decode cX3_orderByReach 23 = .ok (.aload_n 0, 1) := by decide +kernel
theorem dX3_orderByReach_24 : decode cX3_orderByReach 24 = .ok (.iload_n 2, 1) := by decide +kernel
theorem dX3_orderByReach_25 : decode cX3_orderByReach 25 = .ok (.aload_n 0, 1) := by decide +kernel
theorem dX3_orderByReach_26 : decode cX3_orderByReach 26 = .ok (.getfield 27, 3) := by decide +kernel
theorem dX3_orderByReach_29 : decode cX3_orderByReach 29 = .ok (.iload_n 3, 1) := by decide +kernel
theorem dX3_orderByReach_30 : decode cX3_orderByReach 30 = .ok (.iconst 1, 1) := by decide +kernel
theorem dX3_orderByReach_31 : decode cX3_orderByReach 31 = .ok (.isub, 1) := by decide +kernel
theorem dX3_orderByReach_32 : decode cX3_orderByReach 32 = .ok (.iaload, 1) := by decide +kernel
theorem dX3_orderByReach_33 : decode cX3_orderByReach 33 = .ok (.invokevirtual 93, 3) := by decide +kernel
theorem dX3_orderByReach_36 : decode cX3_orderByReach 36 = .ok (.ifCond .eq 23, 3) := by decide +kernel
theorem dX3_orderByReach_39 : decode cX3_orderByReach 39 = .ok (.aload_n 0, 1) := by decide +kernel
theorem dX3_orderByReach_40 : decode cX3_orderByReach 40 = .ok (.getfield 27, 3) := by decide +kernel
theorem dX3_orderByReach_43 : decode cX3_orderByReach 43 = .ok (.iload_n 3, 1) := by decide +kernel
theorem dX3_orderByReach_44 : decode cX3_orderByReach 44 = .ok (.aload_n 0, 1) := by decide +kernel
theorem dX3_orderByReach_45 : decode cX3_orderByReach 45 = .ok (.getfield 27, 3) := by decide +kernel
theorem dX3_orderByReach_48 : decode cX3_orderByReach 48 = .ok (.iload_n 3, 1) := by decide +kernel
theorem dX3_orderByReach_49 : decode cX3_orderByReach 49 = .ok (.iconst 1, 1) := by decide +kernel
theorem dX3_orderByReach_50 : decode cX3_orderByReach 50 = .ok (.isub, 1) := by decide +kernel
theorem dX3_orderByReach_51 : decode cX3_orderByReach 51 = .ok (.iaload, 1) := by decide +kernel
theorem dX3_orderByReach_52 : decode cX3_orderByReach 52 = .ok (.iastore, 1) := by decide +kernel
theorem dX3_orderByReach_53 : decode cX3_orderByReach 53 = .ok (.iinc 3 (-1), 3) := by decide +kernel
theorem dX3_orderByReach_56 : decode cX3_orderByReach 56 = .ok (.goto (-37), 3) := by decide +kernel
theorem dX3_orderByReach_59 : decode cX3_orderByReach 59 = .ok (.aload_n 0, 1) := by decide +kernel
theorem dX3_orderByReach_60 : decode cX3_orderByReach 60 = .ok (.getfield 27, 3) := by decide +kernel
theorem dX3_orderByReach_63 : decode cX3_orderByReach 63 = .ok (.iload_n 3, 1) := by decide +kernel
theorem dX3_orderByReach_64 : decode cX3_orderByReach 64 = .ok (.iload_n 2, 1) := by decide +kernel
theorem dX3_orderByReach_65 : decode cX3_orderByReach 65 = .ok (.iastore, 1) := by decide +kernel
theorem dX3_orderByReach_66 : decode cX3_orderByReach 66 = .ok (.iinc 1 1, 3) := by decide +kernel
theorem dX3_orderByReach_69 : decode cX3_orderByReach 69 = .ok (.goto (-67), 3) := by decide +kernel
theorem dX3_orderByReach_72 : decode cX3_orderByReach 72 = .ok (.return_, 1) := by decide +kernel
theorem dX3_reaches_0 : decode cX3_reaches 0 = .ok (.iconst 0, 1) := by decide +kernel
theorem dX3_reaches_1 : decode cX3_reaches 1 = .ok (.istore_n 3, 1) := by decide +kernel
theorem dX3_reaches_2 : decode cX3_reaches 2 = .ok (.iload_n 3, 1) := by decide +kernel
theorem dX3_reaches_3 : decode cX3_reaches 3 = .ok (.bipush 12, 2) := by decide +kernel
theorem dX3_reaches_5 : decode cX3_reaches 5 = .ok (.if_icmp .ge 30, 3) := by decide +kernel
theorem dX3_reaches_8 : decode cX3_reaches 8 = .ok (.iload_n 1, 1) := by decide +kernel
theorem dX3_reaches_9 : decode cX3_reaches 9 = .ok (.iconst 1, 1) := by decide +kernel
theorem dX3_reaches_10 : decode cX3_reaches 10 = .ok (.iload_n 3, 1) := by decide +kernel
theorem dX3_reaches_11 : decode cX3_reaches 11 = .ok (.ishl, 1) := by decide +kernel
theorem dX3_reaches_12 : decode cX3_reaches 12 = .ok (.iand, 1) := by decide +kernel
theorem dX3_reaches_13 : decode cX3_reaches 13 = .ok (.ifCond .eq 16, 3) := by decide +kernel
theorem dX3_reaches_16 : decode cX3_reaches 16 = .ok (.aload_n 0, 1) := by decide +kernel
theorem dX3_reaches_17 : decode cX3_reaches 17 = .ok (.getfield 24, 3) := by decide +kernel
theorem dX3_reaches_20 : decode cX3_reaches 20 = .ok (.iload_n 3, 1) := by decide +kernel
theorem dX3_reaches_21 : decode cX3_reaches 21 = .ok (.iaload, 1) := by decide +kernel
theorem dX3_reaches_22 : decode cX3_reaches 22 = .ok (.iload_n 2, 1) := by decide +kernel
theorem dX3_reaches_23 : decode cX3_reaches 23 = .ok (.iand, 1) := by decide +kernel
theorem dX3_reaches_24 : decode cX3_reaches 24 = .ok (.ifCond .eq 5, 3) := by decide +kernel
theorem dX3_reaches_27 : decode cX3_reaches 27 = .ok (.iconst 1, 1) := by decide +kernel
theorem dX3_reaches_28 : decode cX3_reaches 28 = .ok (.ireturn, 1) := by decide +kernel
theorem dX3_reaches_29 : decode cX3_reaches 29 = .ok (.iinc 3 1, 3) := by decide +kernel
theorem dX3_reaches_32 : decode cX3_reaches 32 = .ok (.goto (-30), 3) := by decide +kernel
theorem dX3_reaches_35 : decode cX3_reaches 35 = .ok (.iconst 0, 1) := by decide +kernel
theorem dX3_reaches_36 : decode cX3_reaches 36 = .ok (.ireturn, 1) := by decide +kernel
theorem dX3_cutsToBeside_0 : decode cX3_cutsToBeside 0 = .ok (.iconst 0, 1) := by decide +kernel
theorem dX3_cutsToBeside_1 : decode cX3_cutsToBeside 1 = .ok (.istore_n 1, 1) := by decide +kernel
theorem dX3_cutsToBeside_2 : decode cX3_cutsToBeside 2 = .ok (.iload_n 1, 1) := by decide +kernel
theorem dX3_cutsToBeside_3 : decode cX3_cutsToBeside 3 = .ok (.bipush 12, 2) := by decide +kernel
theorem dX3_cutsToBeside_5 : decode cX3_cutsToBeside 5 = .ok (.if_icmp .ge 35, 3) := by decide +kernel
theorem dX3_cutsToBeside_8 : decode cX3_cutsToBeside 8 = .ok (.aload_n 0, 1) := by decide +kernel
theorem dX3_cutsToBeside_9 : decode cX3_cutsToBeside 9 = .ok (.getfield 21, 3) := by decide +kernel
theorem dX3_cutsToBeside_12 : decode cX3_cutsToBeside 12 = .ok (.iload_n 1, 1) := by decide +kernel
theorem dX3_cutsToBeside_13 : decode cX3_cutsToBeside 13 = .ok (.aload_n 0, 1) := by decide +kernel
theorem dX3_cutsToBeside_14 : decode cX3_cutsToBeside 14 = .ok (.getfield 42, 3) := by decide +kernel
theorem dX3_cutsToBeside_17 : decode cX3_cutsToBeside 17 = .ok (.aload_n 0, 1) := by decide +kernel
theorem dX3_cutsToBeside_18 : decode cX3_cutsToBeside 18 = .ok (.getfield 15, 3) := by decide +kernel
theorem dX3_cutsToBeside_21 : decode cX3_cutsToBeside 21 = .ok (.iload_n 1, 1) := by decide +kernel
theorem dX3_cutsToBeside_22 : decode cX3_cutsToBeside 22 = .ok (.iaload, 1) := by decide +kernel
theorem dX3_cutsToBeside_23 : decode cX3_cutsToBeside 23 = .ok (.aload_n 0, 1) := by decide +kernel
theorem dX3_cutsToBeside_24 : decode cX3_cutsToBeside 24 = .ok (.getfield 18, 3) := by decide +kernel
theorem dX3_cutsToBeside_27 : decode cX3_cutsToBeside 27 = .ok (.iload_n 1, 1) := by decide +kernel
theorem dX3_cutsToBeside_28 : decode cX3_cutsToBeside 28 = .ok (.iaload, 1) := by decide +kernel
theorem dX3_cutsToBeside_29 : decode cX3_cutsToBeside 29 = .ok (.iand, 1) := by decide +kernel
theorem dX3_cutsToBeside_30 : decode cX3_cutsToBeside 30 = .ok (.iconst (-1), 1) := by decide +kernel
theorem dX3_cutsToBeside_31 : decode cX3_cutsToBeside 31 = .ok (.ixor, 1) := by decide +kernel
theorem dX3_cutsToBeside_32 : decode cX3_cutsToBeside 32 = .ok (.iand, 1) := by decide +kernel
theorem dX3_cutsToBeside_33 : decode cX3_cutsToBeside 33 = .ok (.iastore, 1) := by decide +kernel
theorem dX3_cutsToBeside_34 : decode cX3_cutsToBeside 34 = .ok (.iinc 1 1, 3) := by decide +kernel
theorem dX3_cutsToBeside_37 : decode cX3_cutsToBeside 37 = .ok (.goto (-35), 3) := by decide +kernel
theorem dX3_cutsToBeside_40 : decode cX3_cutsToBeside 40 = .ok (.aload_n 0, 1) := by decide +kernel
theorem dX3_cutsToBeside_41 : decode cX3_cutsToBeside 41 = .ok (.aload_n 0, 1) := by decide +kernel
theorem dX3_cutsToBeside_42 : decode cX3_cutsToBeside 42 = .ok (.getfield 42, 3) := by decide +kernel
theorem dX3_cutsToBeside_45 : decode cX3_cutsToBeside 45 = .ok (.invokevirtual 87, 3) := by decide +kernel
theorem dX3_cutsToBeside_48 : decode cX3_cutsToBeside 48 = .ok (.iconst 0, 1) := by decide +kernel
theorem dX3_cutsToBeside_49 : decode cX3_cutsToBeside 49 = .ok (.istore_n 1, 1) := by decide +kernel
theorem dX3_cutsToBeside_50 : decode cX3_cutsToBeside 50 = .ok (.iload_n 1, 1) := by decide +kernel
theorem dX3_cutsToBeside_51 : decode cX3_cutsToBeside 51 = .ok (.aload_n 0, 1) := by decide +kernel
theorem dX3_cutsToBeside_52 : decode cX3_cutsToBeside 52 = .ok (.getfield 80, 3) := by decide +kernel
theorem dX3_cutsToBeside_55 : decode cX3_cutsToBeside 55 = .ok (.if_icmp .ge 39, 3) := by decide +kernel
theorem dX3_cutsToBeside_58 : decode cX3_cutsToBeside 58 = .ok (.aload_n 0, 1) := by decide +kernel
theorem dX3_cutsToBeside_59 : decode cX3_cutsToBeside 59 = .ok (.getfield 27, 3) := by decide +kernel
theorem dX3_cutsToBeside_62 : decode cX3_cutsToBeside 62 = .ok (.iload_n 1, 1) := by decide +kernel
theorem dX3_cutsToBeside_63 : decode cX3_cutsToBeside 63 = .ok (.iaload, 1) := by decide +kernel
theorem dX3_cutsToBeside_64 : decode cX3_cutsToBeside 64 = .ok (.aload_n 0, 1) := by decide +kernel
theorem dX3_cutsToBeside_65 : decode cX3_cutsToBeside 65 = .ok (.getfield 45, 3) := by decide +kernel
theorem dX3_cutsToBeside_68 : decode cX3_cutsToBeside 68 = .ok (.iand, 1) := by decide +kernel
theorem dX3_cutsToBeside_69 : decode cX3_cutsToBeside 69 = .ok (.ifCond .eq 17, 3) := by decide +kernel
theorem dX3_cutsToBeside_72 : decode cX3_cutsToBeside 72 = .ok (.aload_n 0, 1) := by decide +kernel
theorem dX3_cutsToBeside_73 : decode cX3_cutsToBeside 73 = .ok (.getfield 27, 3) := by decide +kernel
theorem dX3_cutsToBeside_76 : decode cX3_cutsToBeside 76 = .ok (.iload_n 1, 1) := by decide +kernel
theorem dX3_cutsToBeside_77 : decode cX3_cutsToBeside 77 = .ok (.iaload, 1) := by decide +kernel
theorem dX3_cutsToBeside_78 : decode cX3_cutsToBeside 78 = .ok (.aload_n 0, 1) := by decide +kernel
theorem dX3_cutsToBeside_79 : decode cX3_cutsToBeside 79 = .ok (.getfield 48, 3) := by decide +kernel
theorem dX3_cutsToBeside_82 : decode cX3_cutsToBeside 82 = .ok (.iand, 1) := by decide +kernel
theorem dX3_cutsToBeside_83 : decode cX3_cutsToBeside 83 = .ok (.ifCond .ne 5, 3) := by decide +kernel
theorem dX3_cutsToBeside_86 : decode cX3_cutsToBeside 86 = .ok (.iconst 0, 1) := by decide +kernel
theorem dX3_cutsToBeside_87 : decode cX3_cutsToBeside 87 = .ok (.ireturn, 1) := by decide +kernel
theorem dX3_cutsToBeside_88 : decode cX3_cutsToBeside 88 = .ok (.iinc 1 1, 3) := by decide +kernel
theorem dX3_cutsToBeside_91 : decode cX3_cutsToBeside 91 = .ok (.goto (-41), 3) := by decide +kernel
theorem dX3_cutsToBeside_94 : decode cX3_cutsToBeside 94 = .ok (.aload_n 0, 1) := by decide +kernel
theorem dX3_cutsToBeside_95 : decode cX3_cutsToBeside 95 = .ok (.getfield 80, 3) := by decide +kernel
theorem dX3_cutsToBeside_98 : decode cX3_cutsToBeside 98 = .ok (.iconst 1, 1) := by decide +kernel
theorem dX3_cutsToBeside_99 : decode cX3_cutsToBeside 99 = .ok (.if_icmp .le 7, 3) := by decide +kernel
theorem dX3_cutsToBeside_102 : decode cX3_cutsToBeside 102 = .ok (.iconst 1, 1) := by decide +kernel
theorem dX3_cutsToBeside_103 : decode cX3_cutsToBeside 103 = .ok (.goto 4, 3) := by decide +kernel
theorem dX3_cutsToBeside_106 : decode cX3_cutsToBeside 106 = .ok (.iconst 0, 1) := by decide +kernel
theorem dX3_cutsToBeside_107 : decode cX3_cutsToBeside 107 = .ok (.ireturn, 1) := by decide +kernel
theorem dX3_cutsToLoop_0 : decode cX3_cutsToLoop 0 = .ok (.aload_n 0, 1) := by decide +kernel
theorem dX3_cutsToLoop_1 : decode cX3_cutsToLoop 1 = .ok (.getfield 45, 3) := by decide +kernel
theorem dX3_cutsToLoop_4 : decode cX3_cutsToLoop 4 = .ok (.aload_n 0, 1) := by decide +kernel
theorem dX3_cutsToLoop_5 : decode cX3_cutsToLoop 5 = .ok (.getfield 48, 3) := by decide +kernel
theorem dX3_cutsToLoop_8 : decode cX3_cutsToLoop 8 = .ok (.ior, 1) := by decide +kernel
theorem dX3_cutsToLoop_9 : decode cX3_cutsToLoop 9 = .ok (.istore_n 1, 1) := by decide +kernel
theorem dX3_cutsToLoop_10 : decode cX3_cutsToLoop 10 = .ok (.aload_n 0, 1) := by decide +kernel
theorem dX3_cutsToLoop_11 : decode cX3_cutsToLoop 11 = .ok (.getfield 42, 3) := by decide +kernel
theorem dX3_cutsToLoop_14 : decode cX3_cutsToLoop 14 = .ok (.iload_n 1, 1) := by decide +kernel
theorem dX3_cutsToLoop_15 : decode cX3_cutsToLoop 15 = .ok (.iconst (-1), 1) := by decide +kernel
theorem dX3_cutsToLoop_16 : decode cX3_cutsToLoop 16 = .ok (.ixor, 1) := by decide +kernel
theorem dX3_cutsToLoop_17 : decode cX3_cutsToLoop 17 = .ok (.iand, 1) := by decide +kernel
theorem dX3_cutsToLoop_18 : decode cX3_cutsToLoop 18 = .ok (.istore_n 2, 1) := by decide +kernel
theorem dX3_cutsToLoop_19 : decode cX3_cutsToLoop 19 = .ok (.iconst 0, 1) := by decide +kernel
theorem dX3_cutsToLoop_20 : decode cX3_cutsToLoop 20 = .ok (.istore_n 3, 1) := by decide +kernel
theorem dX3_cutsToLoop_21 : decode cX3_cutsToLoop 21 = .ok (.iload_n 3, 1) := by decide +kernel
theorem dX3_cutsToLoop_22 : decode cX3_cutsToLoop 22 = .ok (.bipush 12, 2) := by decide +kernel
theorem dX3_cutsToLoop_24 : decode cX3_cutsToLoop 24 = .ok (.if_icmp .ge 30, 3) := by decide +kernel
theorem dX3_cutsToLoop_27 : decode cX3_cutsToLoop 27 = .ok (.aload_n 0, 1) := by decide +kernel
theorem dX3_cutsToLoop_28 : decode cX3_cutsToLoop 28 = .ok (.getfield 21, 3) := by decide +kernel
theorem dX3_cutsToLoop_31 : decode cX3_cutsToLoop 31 = .ok (.iload_n 3, 1) := by decide +kernel
theorem dX3_cutsToLoop_32 : decode cX3_cutsToLoop 32 = .ok (.aload_n 0, 1) := by decide +kernel
theorem dX3_cutsToLoop_33 : decode cX3_cutsToLoop 33 = .ok (.getfield 15, 3) := by decide +kernel
theorem dX3_cutsToLoop_36 : decode cX3_cutsToLoop 36 = .ok (.iload_n 3, 1) := by decide +kernel
theorem dX3_cutsToLoop_37 : decode cX3_cutsToLoop 37 = .ok (.iaload, 1) := by decide +kernel
theorem dX3_cutsToLoop_38 : decode cX3_cutsToLoop 38 = .ok (.aload_n 0, 1) := by decide +kernel
theorem dX3_cutsToLoop_39 : decode cX3_cutsToLoop 39 = .ok (.getfield 18, 3) := by decide +kernel
theorem dX3_cutsToLoop_42 : decode cX3_cutsToLoop 42 = .ok (.iload_n 3, 1) := by decide +kernel
theorem dX3_cutsToLoop_43 : decode cX3_cutsToLoop 43 = .ok (.iaload, 1) := by decide +kernel
theorem dX3_cutsToLoop_44 : decode cX3_cutsToLoop 44 = .ok (.ior, 1) := by decide +kernel
theorem dX3_cutsToLoop_45 : decode cX3_cutsToLoop 45 = .ok (.iload_n 2, 1) := by decide +kernel
theorem dX3_cutsToLoop_46 : decode cX3_cutsToLoop 46 = .ok (.iand, 1) := by decide +kernel
theorem dX3_cutsToLoop_47 : decode cX3_cutsToLoop 47 = .ok (.iastore, 1) := by decide +kernel
theorem dX3_cutsToLoop_48 : decode cX3_cutsToLoop 48 = .ok (.iinc 3 1, 3) := by decide +kernel
theorem dX3_cutsToLoop_51 : decode cX3_cutsToLoop 51 = .ok (.goto (-30), 3) := by decide +kernel
theorem dX3_cutsToLoop_54 : decode cX3_cutsToLoop 54 = .ok (.aload_n 0, 1) := by decide +kernel
theorem dX3_cutsToLoop_55 : decode cX3_cutsToLoop 55 = .ok (.iload_n 2, 1) := by decide +kernel
theorem dX3_cutsToLoop_56 : decode cX3_cutsToLoop 56 = .ok (.invokevirtual 87, 3) := by decide +kernel
theorem dX3_cutsToLoop_59 : decode cX3_cutsToLoop 59 = .ok (.iload_n 1, 1) := by decide +kernel
theorem dX3_cutsToLoop_60 : decode cX3_cutsToLoop 60 = .ok (.istore_n 3, 1) := by decide +kernel
theorem dX3_cutsToLoop_61 : decode cX3_cutsToLoop 61 = .ok (.iconst 0, 1) := by decide +kernel
theorem dX3_cutsToLoop_62 : decode cX3_cutsToLoop 62 = .ok (.istore 4, 2) := by decide +kernel
theorem dX3_cutsToLoop_64 : decode cX3_cutsToLoop 64 = .ok (.iload 4, 2) := by decide +kernel
theorem dX3_cutsToLoop_66 : decode cX3_cutsToLoop 66 = .ok (.aload_n 0, 1) := by decide +kernel
theorem dX3_cutsToLoop_67 : decode cX3_cutsToLoop 67 = .ok (.getfield 80, 3) := by decide +kernel
theorem dX3_cutsToLoop_70 : decode cX3_cutsToLoop 70 = .ok (.if_icmp .ge 34, 3) := by decide +kernel
theorem dX3_cutsToLoop_73 : decode cX3_cutsToLoop 73 = .ok (.aload_n 0, 1) := by decide +kernel
theorem dX3_cutsToLoop_74 : decode cX3_cutsToLoop 74 = .ok (.iload_n 1, 1) := by decide +kernel
theorem dX3_cutsToLoop_75 : decode cX3_cutsToLoop 75 = .ok (.aload_n 0, 1) := by decide +kernel
theorem dX3_cutsToLoop_76 : decode cX3_cutsToLoop 76 = .ok (.getfield 27, 3) := by decide +kernel
theorem dX3_cutsToLoop_79 : decode cX3_cutsToLoop 79 = .ok (.iload 4, 2) := by decide +kernel
theorem dX3_cutsToLoop_81 : decode cX3_cutsToLoop 81 = .ok (.iaload, 1) := by decide +kernel
theorem dX3_cutsToLoop_82 : decode cX3_cutsToLoop 82 = .ok (.invokevirtual 97, 3) := by decide +kernel
theorem dX3_cutsToLoop_85 : decode cX3_cutsToLoop 85 = .ok (.ifCond .eq 13, 3) := by decide +kernel
theorem dX3_cutsToLoop_88 : decode cX3_cutsToLoop 88 = .ok (.iload_n 3, 1) := by decide +kernel
theorem dX3_cutsToLoop_89 : decode cX3_cutsToLoop 89 = .ok (.aload_n 0, 1) := by decide +kernel
theorem dX3_cutsToLoop_90 : decode cX3_cutsToLoop 90 = .ok (.getfield 27, 3) := by decide +kernel
theorem dX3_cutsToLoop_93 : decode cX3_cutsToLoop 93 = .ok (.iload 4, 2) := by decide +kernel
theorem dX3_cutsToLoop_95 : decode cX3_cutsToLoop 95 = .ok (.iaload, 1) := by decide +kernel
theorem dX3_cutsToLoop_96 : decode cX3_cutsToLoop 96 = .ok (.ior, 1) := by decide +kernel
theorem dX3_cutsToLoop_97 : decode cX3_cutsToLoop 97 = .ok (.istore_n 3, 1) := by decide +kernel
theorem dX3_cutsToLoop_98 : decode cX3_cutsToLoop 98 = .ok (.iinc 4 1, 3) := by decide +kernel
theorem dX3_cutsToLoop_101 : decode cX3_cutsToLoop 101 = .ok (.goto (-37), 3) := by decide +kernel
theorem dX3_cutsToLoop_104 : decode cX3_cutsToLoop 104 = .ok (.aload_n 0, 1) := by decide +kernel
theorem dX3_cutsToLoop_105 : decode cX3_cutsToLoop 105 = .ok (.aload_n 0, 1) := by decide +kernel
theorem dX3_cutsToLoop_106 : decode cX3_cutsToLoop 106 = .ok (.getfield 42, 3) := by decide +kernel
theorem dX3_cutsToLoop_109 : decode cX3_cutsToLoop 109 = .ok (.iload_n 3, 1) := by decide +kernel
theorem dX3_cutsToLoop_110 : decode cX3_cutsToLoop 110 = .ok (.iconst (-1), 1) := by decide +kernel
theorem dX3_cutsToLoop_111 : decode cX3_cutsToLoop 111 = .ok (.ixor, 1) := by decide +kernel
theorem dX3_cutsToLoop_112 : decode cX3_cutsToLoop 112 = .ok (.iand, 1) := by decide +kernel
theorem dX3_cutsToLoop_113 : decode cX3_cutsToLoop 113 = .ok (.invokevirtual 87, 3) := by decide +kernel
theorem dX3_cutsToLoop_116 : decode cX3_cutsToLoop 116 = .ok (.aload_n 0, 1) := by decide +kernel
theorem dX3_cutsToLoop_117 : decode cX3_cutsToLoop 117 = .ok (.iload_n 3, 1) := by decide +kernel
theorem dX3_cutsToLoop_118 : decode cX3_cutsToLoop 118 = .ok (.invokevirtual 100, 3) := by decide +kernel
theorem dX3_cutsToLoop_121 : decode cX3_cutsToLoop 121 = .ok (.aload_n 0, 1) := by decide +kernel
theorem dX3_cutsToLoop_122 : decode cX3_cutsToLoop 122 = .ok (.getfield 80, 3) := by decide +kernel
theorem dX3_cutsToLoop_125 : decode cX3_cutsToLoop 125 = .ok (.iconst 1, 1) := by decide +kernel
theorem dX3_cutsToLoop_126 : decode cX3_cutsToLoop 126 = .ok (.if_icmp .le 7, 3) := by decide +kernel
theorem dX3_cutsToLoop_129 : decode cX3_cutsToLoop 129 = .ok (.iconst 1, 1) := by decide +kernel
theorem dX3_cutsToLoop_130 : decode cX3_cutsToLoop 130 = .ok (.goto 4, 3) := by decide +kernel
theorem dX3_cutsToLoop_133 : decode cX3_cutsToLoop 133 = .ok (.iconst 0, 1) := by decide +kernel
theorem dX3_cutsToLoop_134 : decode cX3_cutsToLoop 134 = .ok (.ireturn, 1) := by decide +kernel
theorem dX3_putAhead_0 : decode cX3_putAhead 0 = .ok (.aload_n 0, 1) := by decide +kernel
theorem dX3_putAhead_1 : decode cX3_putAhead 1 = .ok (.getfield 80, 3) := by decide +kernel
theorem dX3_putAhead_4 : decode cX3_putAhead 4 = .ok (.aload_n 0, 1) := by decide +kernel
theorem dX3_putAhead_5 : decode cX3_putAhead 5 = .ok (.getfield 27, 3) := by decide +kernel
theorem dX3_putAhead_8 : decode cX3_putAhead 8 = .ok (.arraylength, 1) := by decide +kernel
theorem dX3_putAhead_9 : decode cX3_putAhead 9 = .ok (.if_icmp .lt 4, 3) := by decide +kernel
theorem dX3_putAhead_12 : decode cX3_putAhead 12 = .ok (.return_, 1) := by decide +kernel
theorem dX3_putAhead_13 : decode cX3_putAhead 13 = .ok (.aload_n 0, 1) := by decide +kernel
theorem dX3_putAhead_14 : decode cX3_putAhead 14 = .ok (.getfield 80, 3) := by decide +kernel
theorem dX3_putAhead_17 : decode cX3_putAhead 17 = .ok (.istore_n 2, 1) := by decide +kernel
theorem dX3_putAhead_18 : decode cX3_putAhead 18 = .ok (.iload_n 2, 1) := by decide +kernel
theorem dX3_putAhead_19 : decode cX3_putAhead 19 = .ok (.ifCond .le 23, 3) := by decide +kernel
theorem dX3_putAhead_22 : decode cX3_putAhead 22 = .ok (.aload_n 0, 1) := by decide +kernel
theorem dX3_putAhead_23 : decode cX3_putAhead 23 = .ok (.getfield 27, 3) := by decide +kernel
theorem dX3_putAhead_26 : decode cX3_putAhead 26 = .ok (.iload_n 2, 1) := by decide +kernel
theorem dX3_putAhead_27 : decode cX3_putAhead 27 = .ok (.aload_n 0, 1) := by decide +kernel
theorem dX3_putAhead_28 : decode cX3_putAhead 28 = .ok (.getfield 27, 3) := by decide +kernel
theorem dX3_putAhead_31 : decode cX3_putAhead 31 = .ok (.iload_n 2, 1) := by decide +kernel
theorem dX3_putAhead_32 : decode cX3_putAhead 32 = .ok (.iconst 1, 1) := by decide +kernel
theorem dX3_putAhead_33 : decode cX3_putAhead 33 = .ok (.isub, 1) := by decide +kernel
theorem dX3_putAhead_34 : decode cX3_putAhead 34 = .ok (.iaload, 1) := by decide +kernel
theorem dX3_putAhead_35 : decode cX3_putAhead 35 = .ok (.iastore, 1) := by decide +kernel
theorem dX3_putAhead_36 : decode cX3_putAhead 36 = .ok (.iinc 2 (-1), 3) := by decide +kernel
theorem dX3_putAhead_39 : decode cX3_putAhead 39 = .ok (.goto (-21), 3) := by decide +kernel
theorem dX3_putAhead_42 : decode cX3_putAhead 42 = .ok (.aload_n 0, 1) := by decide +kernel
theorem dX3_putAhead_43 : decode cX3_putAhead 43 = .ok (.getfield 27, 3) := by decide +kernel
theorem dX3_putAhead_46 : decode cX3_putAhead 46 = .ok (.iconst 0, 1) := by decide +kernel
theorem dX3_putAhead_47 : decode cX3_putAhead 47 = .ok (.iload_n 1, 1) := by decide +kernel
theorem dX3_putAhead_48 : decode cX3_putAhead 48 = .ok (.iastore, 1) := by decide +kernel
theorem dX3_putAhead_49 : decode cX3_putAhead 49 = .ok (.aload_n 0, 1) := by decide +kernel
theorem dX3_putAhead_50 : decode cX3_putAhead 50 = .ok (.dup, 1) := by decide +kernel
theorem dX3_putAhead_51 : decode cX3_putAhead 51 = .ok (.getfield 80, 3) := by decide +kernel
theorem dX3_putAhead_54 : decode cX3_putAhead 54 = .ok (.iconst 1, 1) := by decide +kernel
theorem dX3_putAhead_55 : decode cX3_putAhead 55 = .ok (.iadd, 1) := by decide +kernel
theorem dX3_putAhead_56 : decode cX3_putAhead 56 = .ok (.putfield 80, 3) := by decide +kernel
theorem dX3_putAhead_59 : decode cX3_putAhead 59 = .ok (.return_, 1) := by decide +kernel
theorem dX3_goesTo_0 : decode cX3_goesTo 0 = .ok (.iconst 0, 1) := by decide +kernel
theorem dX3_goesTo_1 : decode cX3_goesTo 1 = .ok (.istore_n 3, 1) := by decide +kernel
theorem dX3_goesTo_2 : decode cX3_goesTo 2 = .ok (.iload_n 3, 1) := by decide +kernel
theorem dX3_goesTo_3 : decode cX3_goesTo 3 = .ok (.bipush 12, 2) := by decide +kernel
theorem dX3_goesTo_5 : decode cX3_goesTo 5 = .ok (.if_icmp .ge 94, 3) := by decide +kernel
theorem dX3_goesTo_8 : decode cX3_goesTo 8 = .ok (.iload_n 2, 1) := by decide +kernel
theorem dX3_goesTo_9 : decode cX3_goesTo 9 = .ok (.iconst 1, 1) := by decide +kernel
theorem dX3_goesTo_10 : decode cX3_goesTo 10 = .ok (.iload_n 3, 1) := by decide +kernel
theorem dX3_goesTo_11 : decode cX3_goesTo 11 = .ok (.ishl, 1) := by decide +kernel
theorem dX3_goesTo_12 : decode cX3_goesTo 12 = .ok (.iand, 1) := by decide +kernel
theorem dX3_goesTo_13 : decode cX3_goesTo 13 = .ok (.ifCond .ne 6, 3) := by decide +kernel
theorem dX3_goesTo_16 : decode cX3_goesTo 16 = .ok (.goto 77, 3) := by decide +kernel
theorem dX3_goesTo_19 : decode cX3_goesTo 19 = .ok (.aload_n 0, 1) := by decide +kernel
theorem dX3_goesTo_20 : decode cX3_goesTo 20 = .ok (.getfield 18, 3) := by decide +kernel
theorem dX3_goesTo_23 : decode cX3_goesTo 23 = .ok (.iload_n 3, 1) := by decide +kernel
theorem dX3_goesTo_24 : decode cX3_goesTo 24 = .ok (.iaload, 1) := by decide +kernel
theorem dX3_goesTo_25 : decode cX3_goesTo 25 = .ok (.iload_n 1, 1) := by decide +kernel
theorem dX3_goesTo_26 : decode cX3_goesTo 26 = .ok (.iand, 1) := by decide +kernel
theorem dX3_goesTo_27 : decode cX3_goesTo 27 = .ok (.aload_n 0, 1) := by decide +kernel
theorem dX3_goesTo_28 : decode cX3_goesTo 28 = .ok (.getfield 48, 3) := by decide +kernel
theorem dX3_goesTo_31 : decode cX3_goesTo 31 = .ok (.iconst (-1), 1) := by decide +kernel
theorem dX3_goesTo_32 : decode cX3_goesTo 32 = .ok (.ixor, 1) := by decide +kernel
theorem dX3_goesTo_33 : decode cX3_goesTo 33 = .ok (.iand, 1) := by decide +kernel
theorem dX3_goesTo_34 : decode cX3_goesTo 34 = .ok (.ifCond .eq 5, 3) := by decide +kernel
theorem dX3_goesTo_37 : decode cX3_goesTo 37 = .ok (.iconst 1, 1) := by decide +kernel
theorem dX3_goesTo_38 : decode cX3_goesTo 38 = .ok (.ireturn, 1) := by decide +kernel
theorem dX3_goesTo_39 : decode cX3_goesTo 39 = .ok (.aload_n 0, 1) := by decide +kernel
theorem dX3_goesTo_40 : decode cX3_goesTo 40 = .ok (.getfield 15, 3) := by decide +kernel
theorem dX3_goesTo_43 : decode cX3_goesTo 43 = .ok (.iload_n 3, 1) := by decide +kernel
theorem dX3_goesTo_44 : decode cX3_goesTo 44 = .ok (.iaload, 1) := by decide +kernel
theorem dX3_goesTo_45 : decode cX3_goesTo 45 = .ok (.iload_n 1, 1) := by decide +kernel
theorem dX3_goesTo_46 : decode cX3_goesTo 46 = .ok (.iand, 1) := by decide +kernel
theorem dX3_goesTo_47 : decode cX3_goesTo 47 = .ok (.aload_n 0, 1) := by decide +kernel
theorem dX3_goesTo_48 : decode cX3_goesTo 48 = .ok (.getfield 45, 3) := by decide +kernel
theorem dX3_goesTo_51 : decode cX3_goesTo 51 = .ok (.iconst (-1), 1) := by decide +kernel
theorem dX3_goesTo_52 : decode cX3_goesTo 52 = .ok (.ixor, 1) := by decide +kernel
theorem dX3_goesTo_53 : decode cX3_goesTo 53 = .ok (.iand, 1) := by decide +kernel
theorem dX3_goesTo_54 : decode cX3_goesTo 54 = .ok (.ifCond .eq 5, 3) := by decide +kernel
theorem dX3_goesTo_57 : decode cX3_goesTo 57 = .ok (.iconst 1, 1) := by decide +kernel
theorem dX3_goesTo_58 : decode cX3_goesTo 58 = .ok (.ireturn, 1) := by decide +kernel
theorem dX3_goesTo_59 : decode cX3_goesTo 59 = .ok (.aload_n 0, 1) := by decide +kernel
theorem dX3_goesTo_60 : decode cX3_goesTo 60 = .ok (.getfield 18, 3) := by decide +kernel
theorem dX3_goesTo_63 : decode cX3_goesTo 63 = .ok (.iload_n 3, 1) := by decide +kernel
theorem dX3_goesTo_64 : decode cX3_goesTo 64 = .ok (.iaload, 1) := by decide +kernel
theorem dX3_goesTo_65 : decode cX3_goesTo 65 = .ok (.aload_n 0, 1) := by decide +kernel
theorem dX3_goesTo_66 : decode cX3_goesTo 66 = .ok (.getfield 48, 3) := by decide +kernel
theorem dX3_goesTo_69 : decode cX3_goesTo 69 = .ok (.invokestatic 103, 3) := by decide +kernel
theorem dX3_goesTo_72 : decode cX3_goesTo 72 = .ok (.ifCond .ne 19, 3) := by decide +kernel
theorem dX3_goesTo_75 : decode cX3_goesTo 75 = .ok (.aload_n 0, 1) := by decide +kernel
theorem dX3_goesTo_76 : decode cX3_goesTo 76 = .ok (.getfield 15, 3) := by decide +kernel
theorem dX3_goesTo_79 : decode cX3_goesTo 79 = .ok (.iload_n 3, 1) := by decide +kernel
theorem dX3_goesTo_80 : decode cX3_goesTo 80 = .ok (.iaload, 1) := by decide +kernel
theorem dX3_goesTo_81 : decode cX3_goesTo 81 = .ok (.aload_n 0, 1) := by decide +kernel
theorem dX3_goesTo_82 : decode cX3_goesTo 82 = .ok (.getfield 45, 3) := by decide +kernel
theorem dX3_goesTo_85 : decode cX3_goesTo 85 = .ok (.invokestatic 103, 3) := by decide +kernel
theorem dX3_goesTo_88 : decode cX3_goesTo 88 = .ok (.ifCond .eq 5, 3) := by decide +kernel
theorem dX3_goesTo_91 : decode cX3_goesTo 91 = .ok (.iconst 1, 1) := by decide +kernel
theorem dX3_goesTo_92 : decode cX3_goesTo 92 = .ok (.ireturn, 1) := by decide +kernel
theorem dX3_goesTo_93 : decode cX3_goesTo 93 = .ok (.iinc 3 1, 3) := by decide +kernel
theorem dX3_goesTo_96 : decode cX3_goesTo 96 = .ok (.goto (-94), 3) := by decide +kernel
theorem dX3_goesTo_99 : decode cX3_goesTo 99 = .ok (.iconst 0, 1) := by decide +kernel
theorem dX3_goesTo_100 : decode cX3_goesTo 100 = .ok (.ireturn, 1) := by decide +kernel
theorem dX3_someNotAll_0 : decode cX3_someNotAll 0 = .ok (.iload_n 0, 1) := by decide +kernel
theorem dX3_someNotAll_1 : decode cX3_someNotAll 1 = .ok (.iload_n 1, 1) := by decide +kernel
theorem dX3_someNotAll_2 : decode cX3_someNotAll 2 = .ok (.iand, 1) := by decide +kernel
theorem dX3_someNotAll_3 : decode cX3_someNotAll 3 = .ok (.ifCond .eq 14, 3) := by decide +kernel
theorem dX3_someNotAll_6 : decode cX3_someNotAll 6 = .ok (.iload_n 0, 1) := by decide +kernel
theorem dX3_someNotAll_7 : decode cX3_someNotAll 7 = .ok (.iload_n 1, 1) := by decide +kernel
theorem dX3_someNotAll_8 : decode cX3_someNotAll 8 = .ok (.iand, 1) := by decide +kernel
theorem dX3_someNotAll_9 : decode cX3_someNotAll 9 = .ok (.iload_n 1, 1) := by decide +kernel
theorem dX3_someNotAll_10 : decode cX3_someNotAll 10 = .ok (.if_icmp .eq 7, 3) := by decide +kernel
theorem dX3_someNotAll_13 : decode cX3_someNotAll 13 = .ok (.iconst 1, 1) := by decide +kernel
theorem dX3_someNotAll_14 : decode cX3_someNotAll 14 = .ok (.goto 4, 3) := by decide +kernel
theorem dX3_someNotAll_17 : decode cX3_someNotAll 17 = .ok (.iconst 0, 1) := by decide +kernel
theorem dX3_someNotAll_18 : decode cX3_someNotAll 18 = .ok (.ireturn, 1) := by decide +kernel
theorem dX5_init_0 : decode cX5_init 0 = .ok (.aload_n 0, 1) := by decide +kernel
theorem dX5_init_1 : decode cX5_init 1 = .ok (.invokespecial 3, 3) := by decide +kernel
theorem dX5_init_4 : decode cX5_init 4 = .ok (.aload_n 0, 1) := by decide +kernel
theorem dX5_init_5 : decode cX5_init 5 = .ok (.bipush 24, 2) := by decide +kernel
theorem dX5_init_7 : decode cX5_init 7 = .ok (.anewarray 9, 3) := by decide +kernel
theorem dX5_init_10 : decode cX5_init 10 = .ok (.putfield 11, 3) := by decide +kernel
theorem dX5_init_13 : decode cX5_init 13 = .ok (.aload_n 0, 1) := by decide +kernel
theorem dX5_init_14 : decode cX5_init 14 = .ok (.sipush 200, 3) := by decide +kernel
theorem dX5_init_17 : decode cX5_init 17 = .ok (.anewarray 15, 3) := by decide +kernel
theorem dX5_init_20 : decode cX5_init 20 = .ok (.putfield 17, 3) := by decide +kernel
theorem dX5_init_23 : decode cX5_init 23 = .ok (.aload_n 0, 1) := by decide +kernel
theorem dX5_init_24 : decode cX5_init 24 = .ok (.new 21, 3) := by decide +kernel
theorem dX5_init_27 : decode cX5_init 27 = .ok (.dup, 1) := by decide +kernel
theorem dX5_init_28 : decode cX5_init 28 = .ok (.invokespecial 23, 3) := by decide +kernel
theorem dX5_init_31 : decode cX5_init 31 = .ok (.putfield 24, 3) := by decide +kernel
theorem dX5_init_34 : decode cX5_init 34 = .ok (.aload_n 0, 1) := by decide +kernel
theorem dX5_init_35 : decode cX5_init 35 = .ok (.bipush 12, 2) := by decide +kernel
theorem dX5_init_37 : decode cX5_init 37 = .ok (.anewarray 28, 3) := by decide +kernel
theorem dX5_init_40 : decode cX5_init 40 = .ok (.putfield 30, 3) := by decide +kernel
theorem dX5_init_43 : decode cX5_init 43 = .ok (.aload_n 0, 1) := by decide +kernel
theorem dX5_init_44 : decode cX5_init 44 = .ok (.sipush 144, 3) := by decide +kernel
theorem dX5_init_47 : decode cX5_init 47 = .ok (.newarray .int, 2) := by decide +kernel
theorem dX5_init_49 : decode cX5_init 49 = .ok (.putfield 34, 3) := by decide +kernel
theorem dX5_init_52 : decode cX5_init 52 = .ok (.aload_n 0, 1) := by decide +kernel
theorem dX5_init_53 : decode cX5_init 53 = .ok (.sipush 144, 3) := by decide +kernel
theorem dX5_init_56 : decode cX5_init 56 = .ok (.newarray .int, 2) := by decide +kernel
theorem dX5_init_58 : decode cX5_init 58 = .ok (.putfield 38, 3) := by decide +kernel
theorem dX5_init_61 : decode cX5_init 61 = .ok (.iconst 0, 1) := by decide +kernel
theorem dX5_init_62 : decode cX5_init 62 = .ok (.istore_n 1, 1) := by decide +kernel
theorem dX5_init_63 : decode cX5_init 63 = .ok (.iload_n 1, 1) := by decide +kernel
theorem dX5_init_64 : decode cX5_init 64 = .ok (.aload_n 0, 1) := by decide +kernel
theorem dX5_init_65 : decode cX5_init 65 = .ok (.getfield 30, 3) := by decide +kernel
theorem dX5_init_68 : decode cX5_init 68 = .ok (.arraylength, 1) := by decide +kernel
theorem dX5_init_69 : decode cX5_init 69 = .ok (.if_icmp .ge 22, 3) := by decide +kernel
theorem dX5_init_72 : decode cX5_init 72 = .ok (.aload_n 0, 1) := by decide +kernel
theorem dX5_init_73 : decode cX5_init 73 = .ok (.getfield 30, 3) := by decide +kernel
theorem dX5_init_76 : decode cX5_init 76 = .ok (.iload_n 1, 1) := by decide +kernel
theorem dX5_init_77 : decode cX5_init 77 = .ok (.new 28, 3) := by decide +kernel
theorem dX5_init_80 : decode cX5_init 80 = .ok (.dup, 1) := by decide +kernel
theorem dX5_init_81 : decode cX5_init 81 = .ok (.invokespecial 41, 3) := by decide +kernel
theorem dX5_init_84 : decode cX5_init 84 = .ok (.aastore, 1) := by decide +kernel
theorem dX5_init_85 : decode cX5_init 85 = .ok (.iinc 1 1, 3) := by decide +kernel
theorem dX5_init_88 : decode cX5_init 88 = .ok (.goto (-25), 3) := by decide +kernel
theorem dX5_init_91 : decode cX5_init 91 = .ok (.return_, 1) := by decide +kernel
theorem dX5_open_0 : decode cX5_open 0 = .ok (.aload_n 0, 1) := by decide +kernel
theorem dX5_open_1 : decode cX5_open 1 = .ok (.getfield 42, 3) := by decide +kernel
theorem dX5_open_4 : decode cX5_open 4 = .ok (.bipush 24, 2) := by decide +kernel
theorem dX5_open_6 : decode cX5_open 6 = .ok (.if_icmp .lt 6, 3) := by decide +kernel
theorem dX5_open_9 : decode cX5_open 9 = .ok (.bipush (-2), 2) := by decide +kernel
theorem dX5_open_11 : decode cX5_open 11 = .ok (.ireturn, 1) := by decide +kernel
theorem dX5_open_12 : decode cX5_open 12 = .ok (.aload_n 0, 1) := by decide +kernel
theorem dX5_open_13 : decode cX5_open 13 = .ok (.getfield 11, 3) := by decide +kernel
theorem dX5_open_16 : decode cX5_open 16 = .ok (.aload_n 0, 1) := by decide +kernel
theorem dX5_open_17 : decode cX5_open 17 = .ok (.getfield 42, 3) := by decide +kernel
theorem dX5_open_20 : decode cX5_open 20 = .ok (.new 9, 3) := by decide +kernel
theorem dX5_open_23 : decode cX5_open 23 = .ok (.dup, 1) := by decide +kernel
theorem dX5_open_24 : decode cX5_open 24 = .ok (.invokespecial 46, 3) := by decide +kernel
theorem dX5_open_27 : decode cX5_open 27 = .ok (.aastore, 1) := by decide +kernel
theorem dX5_open_28 : decode cX5_open 28 = .ok (.aload_n 0, 1) := by decide +kernel
theorem dX5_open_29 : decode cX5_open 29 = .ok (.dup, 1) := by decide +kernel
theorem dX5_open_30 : decode cX5_open 30 = .ok (.getfield 42, 3) := by decide +kernel
theorem dX5_open_33 : decode cX5_open 33 = .ok (.dup_x1, 1) := by decide +kernel
theorem dX5_open_34 : decode cX5_open 34 = .ok (.iconst 1, 1) := by decide +kernel
theorem dX5_open_35 : decode cX5_open 35 = .ok (.iadd, 1) := by decide +kernel
theorem dX5_open_36 : decode cX5_open 36 = .ok (.putfield 42, 3) := by decide +kernel
theorem dX5_open_39 : decode cX5_open 39 = .ok (.ireturn, 1) := by decide +kernel
theorem dX5_add_0 : decode cX5_add 0 = .ok (.aload_n 0, 1) := by decide +kernel
theorem dX5_add_1 : decode cX5_add 1 = .ok (.iload_n 1, 1) := by decide +kernel
theorem dX5_add_2 : decode cX5_add 2 = .ok (.invokevirtual 47, 3) := by decide +kernel
theorem dX5_add_5 : decode cX5_add 5 = .ok (.astore 6, 2) := by decide +kernel
theorem dX5_add_7 : decode cX5_add 7 = .ok (.aload 6, 2) := by decide +kernel
theorem dX5_add_9 : decode cX5_add 9 = .ok (.ifnull 33, 3) := by decide +kernel
theorem dX5_add_12 : decode cX5_add 12 = .ok (.iload_n 2, 1) := by decide +kernel
theorem dX5_add_13 : decode cX5_add 13 = .ok (.invokestatic 51, 3) := by decide +kernel
theorem dX5_add_16 : decode cX5_add 16 = .ok (.ifCond .eq 26, 3) := by decide +kernel
theorem dX5_add_19 : decode cX5_add 19 = .ok (.iload_n 3, 1) := by decide +kernel
theorem dX5_add_20 : decode cX5_add 20 = .ok (.invokestatic 55, 3) := by decide +kernel
theorem dX5_add_23 : decode cX5_add 23 = .ok (.ifCond .eq 19, 3) := by decide +kernel
theorem dX5_add_26 : decode cX5_add 26 = .ok (.iload 4, 2) := by decide +kernel
theorem dX5_add_28 : decode cX5_add 28 = .ok (.invokestatic 58, 3) := by decide +kernel
theorem dX5_add_31 : decode cX5_add 31 = .ok (.ifCond .eq 11, 3) := by decide +kernel
theorem dX5_add_34 : decode cX5_add 34 = .ok (.iload 5, 2) := by decide +kernel
theorem dX5_add_36 : decode cX5_add 36 = .ok (.invokestatic 58, 3) := by decide +kernel
theorem dX5_add_39 : decode cX5_add 39 = .ok (.ifCond .ne 5, 3) := by decide +kernel
theorem dX5_add_42 : decode cX5_add 42 = .ok (.iconst (-1), 1) := by decide +kernel
theorem dX5_add_43 : decode cX5_add 43 = .ok (.ireturn, 1) := by decide +kernel
theorem dX5_add_44 : decode cX5_add 44 = .ok (.aload 6, 2) := by decide +kernel
theorem dX5_add_46 : decode cX5_add 46 = .ok (.getfield 61, 3) := by decide +kernel
theorem dX5_add_49 : decode cX5_add 49 = .ok (.bipush 6, 2) := by decide +kernel
theorem dX5_add_51 : decode cX5_add 51 = .ok (.if_icmp .lt 6, 3) := by decide +kernel
theorem dX5_add_54 : decode cX5_add 54 = .ok (.bipush (-2), 2) := by decide +kernel
theorem dX5_add_56 : decode cX5_add 56 = .ok (.ireturn, 1) := by decide +kernel
theorem dX5_add_57 : decode cX5_add 57 = .ok (.aload 6, 2) := by decide +kernel
theorem dX5_add_59 : decode cX5_add 59 = .ok (.iload_n 2, 1) := by decide +kernel
theorem dX5_add_60 : decode cX5_add 60 = .ok (.iload_n 3, 1) := by decide +kernel
theorem dX5_add_61 : decode cX5_add 61 = .ok (.iload 4, 2) := by decide +kernel
theorem dX5_add_63 : decode cX5_add 63 = .ok (.iload 5, 2) := by decide +kernel
theorem dX5_add_65 : decode cX5_add 65 = .ok (.invokevirtual 64, 3) := by decide +kernel
theorem dX5_add_68 : decode cX5_add 68 = .ok (.aload 6, 2) := by decide +kernel
theorem dX5_add_70 : decode cX5_add 70 = .ok (.getfield 61, 3) := by decide +kernel
theorem dX5_add_73 : decode cX5_add 73 = .ok (.ireturn, 1) := by decide +kernel
theorem dX5_cut_0 : decode cX5_cut 0 = .ok (.aload_n 0, 1) := by decide +kernel
theorem dX5_cut_1 : decode cX5_cut 1 = .ok (.iload_n 1, 1) := by decide +kernel
theorem dX5_cut_2 : decode cX5_cut 2 = .ok (.invokevirtual 47, 3) := by decide +kernel
theorem dX5_cut_5 : decode cX5_cut 5 = .ok (.astore_n 2, 1) := by decide +kernel
theorem dX5_cut_6 : decode cX5_cut 6 = .ok (.aload_n 2, 1) := by decide +kernel
theorem dX5_cut_7 : decode cX5_cut 7 = .ok (.ifnull 10, 3) := by decide +kernel
theorem dX5_cut_10 : decode cX5_cut 10 = .ok (.aload_n 2, 1) := by decide +kernel
theorem dX5_cut_11 : decode cX5_cut 11 = .ok (.getfield 61, 3) := by decide +kernel
theorem dX5_cut_14 : decode cX5_cut 14 = .ok (.ifCond .ne 5, 3) := by decide +kernel
theorem dX5_cut_17 : decode cX5_cut 17 = .ok (.iconst (-1), 1) := by decide +kernel
theorem dX5_cut_18 : decode cX5_cut 18 = .ok (.ireturn, 1) := by decide +kernel
theorem dX5_cut_19 : decode cX5_cut 19 = .ok (.aload_n 2, 1) := by decide +kernel
theorem dX5_cut_20 : decode cX5_cut 20 = .ok (.dup, 1) := by decide +kernel
theorem dX5_cut_21 : decode cX5_cut 21 = .ok (.getfield 61, 3) := by decide +kernel
theorem dX5_cut_24 : decode cX5_cut 24 = .ok (.iconst 1, 1) := by decide +kernel
theorem dX5_cut_25 : decode cX5_cut 25 = .ok (.isub, 1) := by decide +kernel
theorem dX5_cut_26 : decode cX5_cut 26 = .ok (.putfield 61, 3) := by decide +kernel
theorem dX5_cut_29 : decode cX5_cut 29 = .ok (.aload_n 2, 1) := by decide +kernel
theorem dX5_cut_30 : decode cX5_cut 30 = .ok (.getfield 61, 3) := by decide +kernel
theorem dX5_cut_33 : decode cX5_cut 33 = .ok (.ireturn, 1) := by decide +kernel
theorem dX5_drop_0 : decode cX5_drop 0 = .ok (.aload_n 0, 1) := by decide +kernel
theorem dX5_drop_1 : decode cX5_drop 1 = .ok (.iload_n 1, 1) := by decide +kernel
theorem dX5_drop_2 : decode cX5_drop 2 = .ok (.invokevirtual 68, 3) := by decide +kernel
theorem dX5_drop_5 : decode cX5_drop 5 = .ok (.astore_n 3, 1) := by decide +kernel
theorem dX5_drop_6 : decode cX5_drop 6 = .ok (.aload_n 3, 1) := by decide +kernel
theorem dX5_drop_7 : decode cX5_drop 7 = .ok (.ifnonnull 5, 3) := by decide +kernel
theorem dX5_drop_10 : decode cX5_drop 10 = .ok (.iconst (-1), 1) := by decide +kernel
theorem dX5_drop_11 : decode cX5_drop 11 = .ok (.ireturn, 1) := by decide +kernel
theorem dX5_drop_12 : decode cX5_drop 12 = .ok (.aload_n 3, 1) := by decide +kernel
theorem dX5_drop_13 : decode cX5_drop 13 = .ok (.getfield 71, 3) := by decide +kernel
theorem dX5_drop_16 : decode cX5_drop 16 = .ok (.ifCond .eq 7, 3) := by decide +kernel
theorem dX5_drop_19 : decode cX5_drop 19 = .ok (.iconst 1, 1) := by decide +kernel
theorem dX5_drop_20 : decode cX5_drop 20 = .ok (.goto 4, 3) := by decide +kernel
theorem dX5_drop_23 : decode cX5_drop 23 = .ok (.iconst 0, 1) := by decide +kernel
theorem dX5_drop_24 : decode cX5_drop 24 = .ok (.istore 4, 2) := by decide +kernel
theorem dX5_drop_26 : decode cX5_drop 26 = .ok (.aload_n 3, 1) := by decide +kernel
theorem dX5_drop_27 : decode cX5_drop 27 = .ok (.iload_n 2, 1) := by decide +kernel
theorem dX5_drop_28 : decode cX5_drop 28 = .ok (.putfield 71, 3) := by decide +kernel
theorem dX5_drop_31 : decode cX5_drop 31 = .ok (.iload 4, 2) := by decide +kernel
theorem dX5_drop_33 : decode cX5_drop 33 = .ok (.ireturn, 1) := by decide +kernel
theorem dX5_told_0 : decode cX5_told 0 = .ok (.aload_n 0, 1) := by decide +kernel
theorem dX5_told_1 : decode cX5_told 1 = .ok (.iload_n 1, 1) := by decide +kernel
theorem dX5_told_2 : decode cX5_told 2 = .ok (.invokevirtual 68, 3) := by decide +kernel
theorem dX5_told_5 : decode cX5_told 5 = .ok (.astore 4, 2) := by decide +kernel
theorem dX5_told_7 : decode cX5_told 7 = .ok (.aload 4, 2) := by decide +kernel
theorem dX5_told_9 : decode cX5_told 9 = .ok (.ifnonnull 6, 3) := by decide +kernel
theorem dX5_told_12 : decode cX5_told 12 = .ok (.bipush (-9), 2) := by decide +kernel
theorem dX5_told_14 : decode cX5_told 14 = .ok (.ireturn, 1) := by decide +kernel
theorem dX5_told_15 : decode cX5_told 15 = .ok (.iload_n 2, 1) := by decide +kernel
theorem dX5_told_16 : decode cX5_told 16 = .ok (.iconst (-1), 1) := by decide +kernel
theorem dX5_told_17 : decode cX5_told 17 = .ok (.if_icmp .ne 13, 3) := by decide +kernel
theorem dX5_told_20 : decode cX5_told 20 = .ok (.iload_n 3, 1) := by decide +kernel
theorem dX5_told_21 : decode cX5_told 21 = .ok (.ifCond .ne 9, 3) := by decide +kernel
theorem dX5_told_24 : decode cX5_told 24 = .ok (.aload 4, 2) := by decide +kernel
theorem dX5_told_26 : decode cX5_told 26 = .ok (.getfield 61, 3) := by decide +kernel
theorem dX5_told_29 : decode cX5_told 29 = .ok (.ireturn, 1) := by decide +kernel
theorem dX5_told_30 : decode cX5_told 30 = .ok (.iload_n 2, 1) := by decide +kernel
theorem dX5_told_31 : decode cX5_told 31 = .ok (.iconst (-1), 1) := by decide +kernel
theorem dX5_told_32 : decode cX5_told 32 = .ok (.if_icmp .ne 22, 3) := by decide +kernel
theorem dX5_told_35 : decode cX5_told 35 = .ok (.iload_n 3, 1) := by decide +kernel
theorem dX5_told_36 : decode cX5_told 36 = .ok (.iconst 1, 1) := by decide +kernel
theorem dX5_told_37 : decode cX5_told 37 = .ok (.if_icmp .ne 17, 3) := by decide +kernel
theorem dX5_told_40 : decode cX5_told 40 = .ok (.aload 4, 2) := by decide +kernel
theorem dX5_told_42 : decode cX5_told 42 = .ok (.getfield 71, 3) := by decide +kernel
theorem dX5_told_45 : decode cX5_told 45 = .ok (.ifCond .eq 7, 3) := by decide +kernel
theorem dX5_told_48 : decode cX5_told 48 = .ok (.iconst 1, 1) := by decide +kernel
theorem dX5_told_49 : decode cX5_told 49 = .ok (.goto 4, 3) := by decide +kernel
theorem dX5_told_52 : decode cX5_told 52 = .ok (.iconst 0, 1) := by decide +kernel
theorem dX5_told_53 : decode cX5_told 53 = .ok (.ireturn, 1) := by decide +kernel
theorem dX5_told_54 : decode cX5_told 54 = .ok (.iload_n 2, 1) := by decide +kernel
theorem dX5_told_55 : decode cX5_told 55 = .ok (.ifCond .lt 21, 3) := by decide +kernel
theorem dX5_told_58 : decode cX5_told 58 = .ok (.iload_n 2, 1) := by decide +kernel
theorem dX5_told_59 : decode cX5_told 59 = .ok (.aload 4, 2) := by decide +kernel
theorem dX5_told_61 : decode cX5_told 61 = .ok (.getfield 61, 3) := by decide +kernel
theorem dX5_told_64 : decode cX5_told 64 = .ok (.if_icmp .ge 12, 3) := by decide +kernel
theorem dX5_told_67 : decode cX5_told 67 = .ok (.iload_n 3, 1) := by decide +kernel
theorem dX5_told_68 : decode cX5_told 68 = .ok (.ifCond .lt 8, 3) := by decide +kernel
theorem dX5_told_71 : decode cX5_told 71 = .ok (.iload_n 3, 1) := by decide +kernel
theorem dX5_told_72 : decode cX5_told 72 = .ok (.iconst 3, 1) := by decide +kernel
theorem dX5_told_73 : decode cX5_told 73 = .ok (.if_icmp .le 6, 3) := by decide +kernel
theorem dX5_told_76 : decode cX5_told 76 = .ok (.bipush (-9), 2) := by decide +kernel
theorem dX5_told_78 : decode cX5_told 78 = .ok (.ireturn, 1) := by decide +kernel
theorem dX5_told_79 : decode cX5_told 79 = .ok (.aload 4, 2) := by decide +kernel
theorem dX5_told_81 : decode cX5_told 81 = .ok (.iload_n 2, 1) := by decide +kernel
theorem dX5_told_82 : decode cX5_told 82 = .ok (.iload_n 3, 1) := by decide +kernel
theorem dX5_told_83 : decode cX5_told 83 = .ok (.invokevirtual 75, 3) := by decide +kernel
theorem dX5_told_86 : decode cX5_told 86 = .ok (.ireturn, 1) := by decide +kernel
theorem dX5_follows_0 : decode cX5_follows 0 = .ok (.iload_n 1, 1) := by decide +kernel
theorem dX5_follows_1 : decode cX5_follows 1 = .ok (.invokestatic 51, 3) := by decide +kernel
theorem dX5_follows_4 : decode cX5_follows 4 = .ok (.ifCond .eq 10, 3) := by decide +kernel
theorem dX5_follows_7 : decode cX5_follows 7 = .ok (.iload_n 2, 1) := by decide +kernel
theorem dX5_follows_8 : decode cX5_follows 8 = .ok (.invokestatic 51, 3) := by decide +kernel
theorem dX5_follows_11 : decode cX5_follows 11 = .ok (.ifCond .ne 5, 3) := by decide +kernel
theorem dX5_follows_14 : decode cX5_follows 14 = .ok (.iconst (-1), 1) := by decide +kernel
theorem dX5_follows_15 : decode cX5_follows 15 = .ok (.ireturn, 1) := by decide +kernel
theorem dX5_follows_16 : decode cX5_follows 16 = .ok (.aload_n 0, 1) := by decide +kernel
theorem dX5_follows_17 : decode cX5_follows 17 = .ok (.iconst 0, 1) := by decide +kernel
theorem dX5_follows_18 : decode cX5_follows 18 = .ok (.iload_n 2, 1) := by decide +kernel
theorem dX5_follows_19 : decode cX5_follows 19 = .ok (.iload_n 1, 1) := by decide +kernel
theorem dX5_follows_20 : decode cX5_follows 20 = .ok (.invokevirtual 79, 3) := by decide +kernel
theorem dX5_follows_23 : decode cX5_follows 23 = .ok (.ireturn, 1) := by decide +kernel
theorem dX5_stands_0 : decode cX5_stands 0 = .ok (.iload_n 1, 1) := by decide +kernel
theorem dX5_stands_1 : decode cX5_stands 1 = .ok (.invokestatic 51, 3) := by decide +kernel
theorem dX5_stands_4 : decode cX5_stands 4 = .ok (.ifCond .eq 12, 3) := by decide +kernel
theorem dX5_stands_7 : decode cX5_stands 7 = .ok (.iload_n 2, 1) := by decide +kernel
theorem dX5_stands_8 : decode cX5_stands 8 = .ok (.ifCond .lt 8, 3) := by decide +kernel
theorem dX5_stands_11 : decode cX5_stands 11 = .ok (.iload_n 2, 1) := by decide +kernel
theorem dX5_stands_12 : decode cX5_stands 12 = .ok (.iconst 2, 1) := by decide +kernel
theorem dX5_stands_13 : decode cX5_stands 13 = .ok (.if_icmp .le 5, 3) := by decide +kernel
theorem dX5_stands_16 : decode cX5_stands 16 = .ok (.iconst (-1), 1) := by decide +kernel
theorem dX5_stands_17 : decode cX5_stands 17 = .ok (.ireturn, 1) := by decide +kernel
theorem dX5_stands_18 : decode cX5_stands 18 = .ok (.iconst 0, 1) := by decide +kernel
theorem dX5_stands_19 : decode cX5_stands 19 = .ok (.istore_n 3, 1) := by decide +kernel
theorem dX5_stands_20 : decode cX5_stands 20 = .ok (.iconst 0, 1) := by decide +kernel
theorem dX5_stands_21 : decode cX5_stands 21 = .ok (.istore 4, 2) := by decide +kernel
theorem dX5_stands_23 : decode cX5_stands 23 = .ok (.iload 4, 2) := by decide +kernel
theorem dX5_stands_25 : decode cX5_stands 25 = .ok (.aload_n 0, 1) := by decide +kernel
theorem dX5_stands_26 : decode cX5_stands 26 = .ok (.getfield 42, 3) := by decide +kernel
theorem dX5_stands_29 : decode cX5_stands 29 = .ok (.if_icmp .ge 90, 3) := by decide +kernel
theorem dX5_stands_32 : decode cX5_stands 32 = .ok (.aload_n 0, 1) := by decide +kernel
theorem dX5_stands_33 : decode cX5_stands 33 = .ok (.iload 4, 2) := by decide +kernel
theorem dX5_stands_35 : decode cX5_stands 35 = .ok (.invokevirtual 47, 3) := by decide +kernel
theorem dX5_stands_38 : decode cX5_stands 38 = .ok (.astore 5, 2) := by decide +kernel
theorem dX5_stands_40 : decode cX5_stands 40 = .ok (.aload 5, 2) := by decide +kernel
theorem dX5_stands_42 : decode cX5_stands 42 = .ok (.ifnull 71, 3) := by decide +kernel
theorem dX5_stands_45 : decode cX5_stands 45 = .ok (.aload 5, 2) := by decide +kernel
theorem dX5_stands_47 : decode cX5_stands 47 = .ok (.getfield 61, 3) := by decide +kernel
theorem dX5_stands_50 : decode cX5_stands 50 = .ok (.ifCond .ne 6, 3) := by decide +kernel
theorem dX5_stands_53 : decode cX5_stands 53 = .ok (.goto 60, 3) := by decide +kernel
theorem dX5_stands_56 : decode cX5_stands 56 = .ok (.iload_n 2, 1) := by decide +kernel
theorem dX5_stands_57 : decode cX5_stands 57 = .ok (.ifCond .ne 17, 3) := by decide +kernel
theorem dX5_stands_60 : decode cX5_stands 60 = .ok (.aload 5, 2) := by decide +kernel
theorem dX5_stands_62 : decode cX5_stands 62 = .ok (.iconst 0, 1) := by decide +kernel
theorem dX5_stands_63 : decode cX5_stands 63 = .ok (.iconst 0, 1) := by decide +kernel
theorem dX5_stands_64 : decode cX5_stands 64 = .ok (.invokevirtual 75, 3) := by decide +kernel
theorem dX5_stands_67 : decode cX5_stands 67 = .ok (.iload_n 1, 1) := by decide +kernel
theorem dX5_stands_68 : decode cX5_stands 68 = .ok (.if_icmp .ne 6, 3) := by decide +kernel
theorem dX5_stands_71 : decode cX5_stands 71 = .ok (.iinc 3 1, 3) := by decide +kernel
theorem dX5_stands_74 : decode cX5_stands 74 = .ok (.iload_n 2, 1) := by decide +kernel
theorem dX5_stands_75 : decode cX5_stands 75 = .ok (.iconst 1, 1) := by decide +kernel
theorem dX5_stands_76 : decode cX5_stands 76 = .ok (.if_icmp .ne 23, 3) := by decide +kernel
theorem dX5_stands_79 : decode cX5_stands 79 = .ok (.aload 5, 2) := by decide +kernel
theorem dX5_stands_81 : decode cX5_stands 81 = .ok (.aload 5, 2) := by decide +kernel
theorem dX5_stands_83 : decode cX5_stands 83 = .ok (.getfield 61, 3) := by decide +kernel
theorem dX5_stands_86 : decode cX5_stands 86 = .ok (.iconst 1, 1) := by decide +kernel
theorem dX5_stands_87 : decode cX5_stands 87 = .ok (.isub, 1) := by decide +kernel
theorem dX5_stands_88 : decode cX5_stands 88 = .ok (.iconst 0, 1) := by decide +kernel
theorem dX5_stands_89 : decode cX5_stands 89 = .ok (.invokevirtual 75, 3) := by decide +kernel
theorem dX5_stands_92 : decode cX5_stands 92 = .ok (.iload_n 1, 1) := by decide +kernel
theorem dX5_stands_93 : decode cX5_stands 93 = .ok (.if_icmp .ne 6, 3) := by decide +kernel
theorem dX5_stands_96 : decode cX5_stands 96 = .ok (.iinc 3 1, 3) := by decide +kernel
theorem dX5_stands_99 : decode cX5_stands 99 = .ok (.iload_n 2, 1) := by decide +kernel
theorem dX5_stands_100 : decode cX5_stands 100 = .ok (.iconst 2, 1) := by decide +kernel
theorem dX5_stands_101 : decode cX5_stands 101 = .ok (.if_icmp .ne 12, 3) := by decide +kernel
theorem dX5_stands_104 : decode cX5_stands 104 = .ok (.iload_n 3, 1) := by decide +kernel
theorem dX5_stands_105 : decode cX5_stands 105 = .ok (.aload 5, 2) := by decide +kernel
theorem dX5_stands_107 : decode cX5_stands 107 = .ok (.iload_n 1, 1) := by decide +kernel
theorem dX5_stands_108 : decode cX5_stands 108 = .ok (.invokevirtual 83, 3) := by decide +kernel
theorem dX5_stands_111 : decode cX5_stands 111 = .ok (.iadd, 1) := by decide +kernel
theorem dX5_stands_112 : decode cX5_stands 112 = .ok (.istore_n 3, 1) := by decide +kernel
theorem dX5_stands_113 : decode cX5_stands 113 = .ok (.iinc 4 1, 3) := by decide +kernel
theorem dX5_stands_116 : decode cX5_stands 116 = .ok (.goto (-93), 3) := by decide +kernel
theorem dX5_stands_119 : decode cX5_stands 119 = .ok (.iload_n 3, 1) := by decide +kernel
theorem dX5_stands_120 : decode cX5_stands 120 = .ok (.ireturn, 1) := by decide +kernel
theorem dX5_deed_0 : decode cX5_deed 0 = .ok (.iload_n 1, 1) := by decide +kernel
theorem dX5_deed_1 : decode cX5_deed 1 = .ok (.iconst (-1), 1) := by decide +kernel
theorem dX5_deed_2 : decode cX5_deed 2 = .ok (.if_icmp .eq 12, 3) := by decide +kernel
theorem dX5_deed_5 : decode cX5_deed 5 = .ok (.iload_n 1, 1) := by decide +kernel
theorem dX5_deed_6 : decode cX5_deed 6 = .ok (.invokestatic 51, 3) := by decide +kernel
theorem dX5_deed_9 : decode cX5_deed 9 = .ok (.ifCond .ne 5, 3) := by decide +kernel
theorem dX5_deed_12 : decode cX5_deed 12 = .ok (.iconst (-1), 1) := by decide +kernel
theorem dX5_deed_13 : decode cX5_deed 13 = .ok (.ireturn, 1) := by decide +kernel
theorem dX5_deed_14 : decode cX5_deed 14 = .ok (.aload_n 0, 1) := by decide +kernel
theorem dX5_deed_15 : decode cX5_deed 15 = .ok (.iload_n 1, 1) := by decide +kernel
theorem dX5_deed_16 : decode cX5_deed 16 = .ok (.iconst (-1), 1) := by decide +kernel
theorem dX5_deed_17 : decode cX5_deed 17 = .ok (.if_icmp .ne 9, 3) := by decide +kernel
theorem dX5_deed_20 : decode cX5_deed 20 = .ok (.invokestatic 87, 3) := by decide +kernel
theorem dX5_deed_23 : decode cX5_deed 23 = .ok (.goto 7, 3) := by decide +kernel
theorem dX5_deed_26 : decode cX5_deed 26 = .ok (.iload_n 1, 1) := by decide +kernel
theorem dX5_deed_27 : decode cX5_deed 27 = .ok (.invokestatic 91, 3) := by decide +kernel
theorem dX5_deed_30 : decode cX5_deed 30 = .ok (.iconst 1, 1) := by decide +kernel
theorem dX5_deed_31 : decode cX5_deed 31 = .ok (.invokevirtual 95, 3) := by decide +kernel
theorem dX5_deed_34 : decode cX5_deed 34 = .ok (.ireturn, 1) := by decide +kernel
theorem dX5_join_0 : decode cX5_join 0 = .ok (.aload_n 0, 1) := by decide +kernel
theorem dX5_join_1 : decode cX5_join 1 = .ok (.iload_n 2, 1) := by decide +kernel
theorem dX5_join_2 : decode cX5_join 2 = .ok (.invokevirtual 99, 3) := by decide +kernel
theorem dX5_join_5 : decode cX5_join 5 = .ok (.astore 4, 2) := by decide +kernel
theorem dX5_join_7 : decode cX5_join 7 = .ok (.aload_n 0, 1) := by decide +kernel
theorem dX5_join_8 : decode cX5_join 8 = .ok (.iload_n 3, 1) := by decide +kernel
theorem dX5_join_9 : decode cX5_join 9 = .ok (.invokevirtual 99, 3) := by decide +kernel
theorem dX5_join_12 : decode cX5_join 12 = .ok (.astore 5, 2) := by decide +kernel
theorem dX5_join_14 : decode cX5_join 14 = .ok (.iload_n 1, 1) := by decide +kernel
theorem dX5_join_15 : decode cX5_join 15 = .ok (.iconst 2, 1) := by decide +kernel
theorem dX5_join_16 : decode cX5_join 16 = .ok (.if_icmp .lt 18, 3) := by decide +kernel
theorem dX5_join_19 : decode cX5_join 19 = .ok (.iload_n 1, 1) := by decide +kernel
theorem dX5_join_20 : decode cX5_join 20 = .ok (.iconst 5, 1) := by decide +kernel
theorem dX5_join_21 : decode cX5_join 21 = .ok (.if_icmp .gt 13, 3) := by decide +kernel
theorem dX5_join_24 : decode cX5_join 24 = .ok (.aload 4, 2) := by decide +kernel
theorem dX5_join_26 : decode cX5_join 26 = .ok (.ifnull 8, 3) := by decide +kernel
theorem dX5_join_29 : decode cX5_join 29 = .ok (.aload 5, 2) := by decide +kernel
theorem dX5_join_31 : decode cX5_join 31 = .ok (.ifnonnull 5, 3) := by decide +kernel
theorem dX5_join_34 : decode cX5_join 34 = .ok (.iconst (-1), 1) := by decide +kernel
theorem dX5_join_35 : decode cX5_join 35 = .ok (.ireturn, 1) := by decide +kernel
theorem dX5_join_36 : decode cX5_join 36 = .ok (.aload_n 0, 1) := by decide +kernel
theorem dX5_join_37 : decode cX5_join 37 = .ok (.iload_n 1, 1) := by decide +kernel
theorem dX5_join_38 : decode cX5_join 38 = .ok (.aload 4, 2) := by decide +kernel
theorem dX5_join_40 : decode cX5_join 40 = .ok (.aload 5, 2) := by decide +kernel
theorem dX5_join_42 : decode cX5_join 42 = .ok (.invokestatic 102, 3) := by decide +kernel
theorem dX5_join_45 : decode cX5_join 45 = .ok (.iconst 1, 1) := by decide +kernel
theorem dX5_join_46 : decode cX5_join 46 = .ok (.invokevirtual 95, 3) := by decide +kernel
theorem dX5_join_49 : decode cX5_join 49 = .ok (.ireturn, 1) := by decide +kernel
theorem dX5_more_0 : decode cX5_more 0 = .ok (.aload_n 0, 1) := by decide +kernel
theorem dX5_more_1 : decode cX5_more 1 = .ok (.iload_n 1, 1) := by decide +kernel
theorem dX5_more_2 : decode cX5_more 2 = .ok (.invokevirtual 99, 3) := by decide +kernel
theorem dX5_more_5 : decode cX5_more 5 = .ok (.astore_n 3, 1) := by decide +kernel
theorem dX5_more_6 : decode cX5_more 6 = .ok (.aload_n 0, 1) := by decide +kernel
theorem dX5_more_7 : decode cX5_more 7 = .ok (.iload_n 2, 1) := by decide +kernel
theorem dX5_more_8 : decode cX5_more 8 = .ok (.invokevirtual 99, 3) := by decide +kernel
theorem dX5_more_11 : decode cX5_more 11 = .ok (.astore 4, 2) := by decide +kernel
theorem dX5_more_13 : decode cX5_more 13 = .ok (.aload_n 3, 1) := by decide +kernel
theorem dX5_more_14 : decode cX5_more 14 = .ok (.ifnull 16, 3) := by decide +kernel
theorem dX5_more_17 : decode cX5_more 17 = .ok (.aload 4, 2) := by decide +kernel
theorem dX5_more_19 : decode cX5_more 19 = .ok (.ifnull 11, 3) := by decide +kernel
theorem dX5_more_22 : decode cX5_more 22 = .ok (.aload_n 3, 1) := by decide +kernel
theorem dX5_more_23 : decode cX5_more 23 = .ok (.getfield 106, 3) := by decide +kernel
theorem dX5_more_26 : decode cX5_more 26 = .ok (.arraylength, 1) := by decide +kernel
theorem dX5_more_27 : decode cX5_more 27 = .ok (.ifCond .ne 5, 3) := by decide +kernel
theorem dX5_more_30 : decode cX5_more 30 = .ok (.iconst (-1), 1) := by decide +kernel
theorem dX5_more_31 : decode cX5_more 31 = .ok (.ireturn, 1) := by decide +kernel
theorem dX5_more_32 : decode cX5_more 32 = .ok (.aload_n 3, 1) := by decide +kernel
theorem dX5_more_33 : decode cX5_more 33 = .ok (.getfield 106, 3) := by decide +kernel
theorem dX5_more_36 : decode cX5_more 36 = .ok (.arraylength, 1) := by decide +kernel
theorem dX5_more_37 : decode cX5_more 37 = .ok (.iconst 1, 1) := by decide +kernel
theorem dX5_more_38 : decode cX5_more 38 = .ok (.iadd, 1) := by decide +kernel
theorem dX5_more_39 : decode cX5_more 39 = .ok (.anewarray 15, 3) := by decide +kernel
theorem dX5_more_42 : decode cX5_more 42 = .ok (.astore 5, 2) := by decide +kernel
theorem dX5_more_44 : decode cX5_more 44 = .ok (.iconst 0, 1) := by decide +kernel
theorem dX5_more_45 : decode cX5_more 45 = .ok (.istore 6, 2) := by decide +kernel
theorem dX5_more_47 : decode cX5_more 47 = .ok (.iload 6, 2) := by decide +kernel
theorem dX5_more_49 : decode cX5_more 49 = .ok (.aload_n 3, 1) := by decide +kernel
theorem dX5_more_50 : decode cX5_more 50 = .ok (.getfield 106, 3) := by decide +kernel
theorem dX5_more_53 : decode cX5_more 53 = .ok (.arraylength, 1) := by decide +kernel
theorem dX5_more_54 : decode cX5_more 54 = .ok (.if_icmp .ge 21, 3) := by decide +kernel
theorem dX5_more_57 : decode cX5_more 57 = .ok (.aload 5, 2) := by decide +kernel
theorem dX5_more_59 : decode cX5_more 59 = .ok (.iload 6, 2) := by decide +kernel
theorem dX5_more_61 : decode cX5_more 61 = .ok (.aload_n 3, 1) := by decide +kernel
theorem dX5_more_62 : decode cX5_more 62 = .ok (.getfield 106, 3) := by decide +kernel
theorem dX5_more_65 : decode cX5_more 65 = .ok (.iload 6, 2) := by decide +kernel
theorem dX5_more_67 : decode cX5_more 67 = .ok (.aaload, 1) := by decide +kernel
theorem dX5_more_68 : decode cX5_more 68 = .ok (.aastore, 1) := by decide +kernel
theorem dX5_more_69 : decode cX5_more 69 = .ok (.iinc 6 1, 3) := by decide +kernel
theorem dX5_more_72 : decode cX5_more 72 = .ok (.goto (-25), 3) := by decide +kernel
theorem dX5_more_75 : decode cX5_more 75 = .ok (.aload 5, 2) := by decide +kernel
theorem dX5_more_77 : decode cX5_more 77 = .ok (.aload_n 3, 1) := by decide +kernel
theorem dX5_more_78 : decode cX5_more 78 = .ok (.getfield 106, 3) := by decide +kernel
theorem dX5_more_81 : decode cX5_more 81 = .ok (.arraylength, 1) := by decide +kernel
theorem dX5_more_82 : decode cX5_more 82 = .ok (.aload 4, 2) := by decide +kernel
theorem dX5_more_84 : decode cX5_more 84 = .ok (.aastore, 1) := by decide +kernel
theorem dX5_more_85 : decode cX5_more 85 = .ok (.aload_n 0, 1) := by decide +kernel
theorem dX5_more_86 : decode cX5_more 86 = .ok (.new 15, 3) := by decide +kernel
theorem dX5_more_89 : decode cX5_more 89 = .ok (.dup, 1) := by decide +kernel
theorem dX5_more_90 : decode cX5_more 90 = .ok (.aload_n 3, 1) := by decide +kernel
theorem dX5_more_91 : decode cX5_more 91 = .ok (.getfield 109, 3) := by decide +kernel
theorem dX5_more_94 : decode cX5_more 94 = .ok (.bipush (-3), 2) := by decide +kernel
theorem dX5_more_96 : decode cX5_more 96 = .ok (.aload 5, 2) := by decide +kernel
theorem dX5_more_98 : decode cX5_more 98 = .ok (.invokespecial 112, 3) := by decide +kernel
theorem dX5_more_101 : decode cX5_more 101 = .ok (.iconst 1, 1) := by decide +kernel
theorem dX5_more_102 : decode cX5_more 102 = .ok (.invokevirtual 95, 3) := by decide +kernel
theorem dX5_more_105 : decode cX5_more 105 = .ok (.ireturn, 1) := by decide +kernel
theorem dX5_piece_0 : decode cX5_piece 0 = .ok (.aload_n 0, 1) := by decide +kernel
theorem dX5_piece_1 : decode cX5_piece 1 = .ok (.iload_n 1, 1) := by decide +kernel
theorem dX5_piece_2 : decode cX5_piece 2 = .ok (.invokevirtual 99, 3) := by decide +kernel
theorem dX5_piece_5 : decode cX5_piece 5 = .ok (.astore_n 3, 1) := by decide +kernel
theorem dX5_piece_6 : decode cX5_piece 6 = .ok (.aload_n 3, 1) := by decide +kernel
theorem dX5_piece_7 : decode cX5_piece 7 = .ok (.ifnull 13, 3) := by decide +kernel
theorem dX5_piece_10 : decode cX5_piece 10 = .ok (.iload_n 2, 1) := by decide +kernel
theorem dX5_piece_11 : decode cX5_piece 11 = .ok (.ifCond .lt 9, 3) := by decide +kernel
theorem dX5_piece_14 : decode cX5_piece 14 = .ok (.iload_n 2, 1) := by decide +kernel
theorem dX5_piece_15 : decode cX5_piece 15 = .ok (.bipush 63, 2) := by decide +kernel
theorem dX5_piece_17 : decode cX5_piece 17 = .ok (.if_icmp .lt 5, 3) := by decide +kernel
theorem dX5_piece_20 : decode cX5_piece 20 = .ok (.iconst (-1), 1) := by decide +kernel
theorem dX5_piece_21 : decode cX5_piece 21 = .ok (.ireturn, 1) := by decide +kernel
theorem dX5_piece_22 : decode cX5_piece 22 = .ok (.iload_n 2, 1) := by decide +kernel
theorem dX5_piece_23 : decode cX5_piece 23 = .ok (.ifCond .ne 8, 3) := by decide +kernel
theorem dX5_piece_26 : decode cX5_piece 26 = .ok (.aload_n 3, 1) := by decide +kernel
theorem dX5_piece_27 : decode cX5_piece 27 = .ok (.getfield 109, 3) := by decide +kernel
theorem dX5_piece_30 : decode cX5_piece 30 = .ok (.ireturn, 1) := by decide +kernel
theorem dX5_piece_31 : decode cX5_piece 31 = .ok (.iload_n 2, 1) := by decide +kernel
theorem dX5_piece_32 : decode cX5_piece 32 = .ok (.iconst 1, 1) := by decide +kernel
theorem dX5_piece_33 : decode cX5_piece 33 = .ok (.if_icmp .ne 8, 3) := by decide +kernel
theorem dX5_piece_36 : decode cX5_piece 36 = .ok (.aload_n 3, 1) := by decide +kernel
theorem dX5_piece_37 : decode cX5_piece 37 = .ok (.getfield 115, 3) := by decide +kernel
theorem dX5_piece_40 : decode cX5_piece 40 = .ok (.ireturn, 1) := by decide +kernel
theorem dX5_piece_41 : decode cX5_piece 41 = .ok (.iload_n 2, 1) := by decide +kernel
theorem dX5_piece_42 : decode cX5_piece 42 = .ok (.iconst 2, 1) := by decide +kernel
theorem dX5_piece_43 : decode cX5_piece 43 = .ok (.if_icmp .ne 9, 3) := by decide +kernel
theorem dX5_piece_46 : decode cX5_piece 46 = .ok (.aload_n 3, 1) := by decide +kernel
theorem dX5_piece_47 : decode cX5_piece 47 = .ok (.getfield 106, 3) := by decide +kernel
theorem dX5_piece_50 : decode cX5_piece 50 = .ok (.arraylength, 1) := by decide +kernel
theorem dX5_piece_51 : decode cX5_piece 51 = .ok (.ireturn, 1) := by decide +kernel
theorem dX5_piece_52 : decode cX5_piece 52 = .ok (.iload_n 2, 1) := by decide +kernel
theorem dX5_piece_53 : decode cX5_piece 53 = .ok (.iconst 3, 1) := by decide +kernel
theorem dX5_piece_54 : decode cX5_piece 54 = .ok (.if_icmp .ne 8, 3) := by decide +kernel
theorem dX5_piece_57 : decode cX5_piece 57 = .ok (.aload_n 3, 1) := by decide +kernel
theorem dX5_piece_58 : decode cX5_piece 58 = .ok (.getfield 118, 3) := by decide +kernel
theorem dX5_piece_61 : decode cX5_piece 61 = .ok (.ireturn, 1) := by decide +kernel
theorem dX5_piece_62 : decode cX5_piece 62 = .ok (.iload_n 2, 1) := by decide +kernel
theorem dX5_piece_63 : decode cX5_piece 63 = .ok (.iconst 4, 1) := by decide +kernel
theorem dX5_piece_64 : decode cX5_piece 64 = .ok (.isub, 1) := by decide +kernel
theorem dX5_piece_65 : decode cX5_piece 65 = .ok (.aload_n 3, 1) := by decide +kernel
theorem dX5_piece_66 : decode cX5_piece 66 = .ok (.getfield 106, 3) := by decide +kernel
theorem dX5_piece_69 : decode cX5_piece 69 = .ok (.arraylength, 1) := by decide +kernel
theorem dX5_piece_70 : decode cX5_piece 70 = .ok (.if_icmp .ge 17, 3) := by decide +kernel
theorem dX5_piece_73 : decode cX5_piece 73 = .ok (.aload_n 3, 1) := by decide +kernel
theorem dX5_piece_74 : decode cX5_piece 74 = .ok (.getfield 106, 3) := by decide +kernel
theorem dX5_piece_77 : decode cX5_piece 77 = .ok (.iload_n 2, 1) := by decide +kernel
theorem dX5_piece_78 : decode cX5_piece 78 = .ok (.iconst 4, 1) := by decide +kernel
theorem dX5_piece_79 : decode cX5_piece 79 = .ok (.isub, 1) := by decide +kernel
theorem dX5_piece_80 : decode cX5_piece 80 = .ok (.aaload, 1) := by decide +kernel
theorem dX5_piece_81 : decode cX5_piece 81 = .ok (.getfield 121, 3) := by decide +kernel
theorem dX5_piece_84 : decode cX5_piece 84 = .ok (.goto 5, 3) := by decide +kernel
theorem dX5_piece_87 : decode cX5_piece 87 = .ok (.bipush (-3), 2) := by decide +kernel
theorem dX5_piece_89 : decode cX5_piece 89 = .ok (.ireturn, 1) := by decide +kernel
theorem dX5_plain_0 : decode cX5_plain 0 = .ok (.aload_n 0, 1) := by decide +kernel
theorem dX5_plain_1 : decode cX5_plain 1 = .ok (.iload_n 1, 1) := by decide +kernel
theorem dX5_plain_2 : decode cX5_plain 2 = .ok (.invokevirtual 99, 3) := by decide +kernel
theorem dX5_plain_5 : decode cX5_plain 5 = .ok (.astore_n 2, 1) := by decide +kernel
theorem dX5_plain_6 : decode cX5_plain 6 = .ok (.aload_n 2, 1) := by decide +kernel
theorem dX5_plain_7 : decode cX5_plain 7 = .ok (.ifnonnull 5, 3) := by decide +kernel
theorem dX5_plain_10 : decode cX5_plain 10 = .ok (.iconst (-1), 1) := by decide +kernel
theorem dX5_plain_11 : decode cX5_plain 11 = .ok (.ireturn, 1) := by decide +kernel
theorem dX5_plain_12 : decode cX5_plain 12 = .ok (.aload_n 2, 1) := by decide +kernel
theorem dX5_plain_13 : decode cX5_plain 13 = .ok (.iconst 0, 1) := by decide +kernel
theorem dX5_plain_14 : decode cX5_plain 14 = .ok (.invokestatic 124, 3) := by decide +kernel
theorem dX5_plain_17 : decode cX5_plain 17 = .ok (.astore_n 3, 1) := by decide +kernel
theorem dX5_plain_18 : decode cX5_plain 18 = .ok (.aload_n 0, 1) := by decide +kernel
theorem dX5_plain_19 : decode cX5_plain 19 = .ok (.aload_n 3, 1) := by decide +kernel
theorem dX5_plain_20 : decode cX5_plain 20 = .ok (.aload_n 3, 1) := by decide +kernel
theorem dX5_plain_21 : decode cX5_plain 21 = .ok (.getfield 118, 3) := by decide +kernel
theorem dX5_plain_24 : decode cX5_plain 24 = .ok (.invokevirtual 95, 3) := by decide +kernel
theorem dX5_plain_27 : decode cX5_plain 27 = .ok (.ireturn, 1) := by decide +kernel
theorem dX5_like_0 : decode cX5_like 0 = .ok (.aload_n 0, 1) := by decide +kernel
theorem dX5_like_1 : decode cX5_like 1 = .ok (.iload_n 1, 1) := by decide +kernel
theorem dX5_like_2 : decode cX5_like 2 = .ok (.invokevirtual 99, 3) := by decide +kernel
theorem dX5_like_5 : decode cX5_like 5 = .ok (.astore_n 3, 1) := by decide +kernel
theorem dX5_like_6 : decode cX5_like 6 = .ok (.aload_n 0, 1) := by decide +kernel
theorem dX5_like_7 : decode cX5_like 7 = .ok (.iload_n 2, 1) := by decide +kernel
theorem dX5_like_8 : decode cX5_like 8 = .ok (.invokevirtual 99, 3) := by decide +kernel
theorem dX5_like_11 : decode cX5_like 11 = .ok (.astore 4, 2) := by decide +kernel
theorem dX5_like_13 : decode cX5_like 13 = .ok (.aload_n 3, 1) := by decide +kernel
theorem dX5_like_14 : decode cX5_like 14 = .ok (.ifnull 8, 3) := by decide +kernel
theorem dX5_like_17 : decode cX5_like 17 = .ok (.aload 4, 2) := by decide +kernel
theorem dX5_like_19 : decode cX5_like 19 = .ok (.ifnonnull 5, 3) := by decide +kernel
theorem dX5_like_22 : decode cX5_like 22 = .ok (.iconst (-1), 1) := by decide +kernel
theorem dX5_like_23 : decode cX5_like 23 = .ok (.ireturn, 1) := by decide +kernel
theorem dX5_like_24 : decode cX5_like 24 = .ok (.aload_n 3, 1) := by decide +kernel
theorem dX5_like_25 : decode cX5_like 25 = .ok (.aload 4, 2) := by decide +kernel
theorem dX5_like_27 : decode cX5_like 27 = .ok (.iconst 0, 1) := by decide +kernel
theorem dX5_like_28 : decode cX5_like 28 = .ok (.invokestatic 128, 3) := by decide +kernel
theorem dX5_like_31 : decode cX5_like 31 = .ok (.ifCond .ne 7, 3) := by decide +kernel
theorem dX5_like_34 : decode cX5_like 34 = .ok (.iconst 1, 1) := by decide +kernel
theorem dX5_like_35 : decode cX5_like 35 = .ok (.goto 4, 3) := by decide +kernel
theorem dX5_like_38 : decode cX5_like 38 = .ok (.iconst 0, 1) := by decide +kernel
theorem dX5_like_39 : decode cX5_like 39 = .ok (.ireturn, 1) := by decide +kernel
theorem dX5_find_0 : decode cX5_find 0 = .ok (.aload_n 0, 1) := by decide +kernel
theorem dX5_find_1 : decode cX5_find 1 = .ok (.getfield 30, 3) := by decide +kernel
theorem dX5_find_4 : decode cX5_find 4 = .ok (.iconst 0, 1) := by decide +kernel
theorem dX5_find_5 : decode cX5_find 5 = .ok (.aaload, 1) := by decide +kernel
theorem dX5_find_6 : decode cX5_find 6 = .ok (.astore_n 1, 1) := by decide +kernel
theorem dX5_find_7 : decode cX5_find 7 = .ok (.aload_n 1, 1) := by decide +kernel
theorem dX5_find_8 : decode cX5_find 8 = .ok (.iconst 0, 1) := by decide +kernel
theorem dX5_find_9 : decode cX5_find 9 = .ok (.putfield 132, 3) := by decide +kernel
theorem dX5_find_12 : decode cX5_find 12 = .ok (.iconst 0, 1) := by decide +kernel
theorem dX5_find_13 : decode cX5_find 13 = .ok (.istore_n 2, 1) := by decide +kernel
theorem dX5_find_14 : decode cX5_find 14 = .ok (.iload_n 2, 1) := by decide +kernel
theorem dX5_find_15 : decode cX5_find 15 = .ok (.aload_n 0, 1) := by decide +kernel
theorem dX5_find_16 : decode cX5_find 16 = .ok (.getfield 42, 3) := by decide +kernel
theorem dX5_find_19 : decode cX5_find 19 = .ok (.if_icmp .ge 27, 3) := by decide +kernel
theorem dX5_find_22 : decode cX5_find 22 = .ok (.aload_n 0, 1) := by decide +kernel
theorem dX5_find_23 : decode cX5_find 23 = .ok (.iload_n 2, 1) := by decide +kernel
theorem dX5_find_24 : decode cX5_find 24 = .ok (.invokevirtual 47, 3) := by decide +kernel
theorem dX5_find_27 : decode cX5_find 27 = .ok (.astore_n 3, 1) := by decide +kernel
theorem dX5_find_28 : decode cX5_find 28 = .ok (.aload_n 3, 1) := by decide +kernel
theorem dX5_find_29 : decode cX5_find 29 = .ok (.ifnull 11, 3) := by decide +kernel
theorem dX5_find_32 : decode cX5_find 32 = .ok (.aload_n 1, 1) := by decide +kernel
theorem dX5_find_33 : decode cX5_find 33 = .ok (.aload_n 3, 1) := by decide +kernel
theorem dX5_find_34 : decode cX5_find 34 = .ok (.invokevirtual 135, 3) := by decide +kernel
theorem dX5_find_37 : decode cX5_find 37 = .ok (.invokevirtual 139, 3) := by decide +kernel
theorem dX5_find_40 : decode cX5_find 40 = .ok (.iinc 2 1, 3) := by decide +kernel
theorem dX5_find_43 : decode cX5_find 43 = .ok (.goto (-29), 3) := by decide +kernel
theorem dX5_find_46 : decode cX5_find 46 = .ok (.aload_n 0, 1) := by decide +kernel
theorem dX5_find_47 : decode cX5_find 47 = .ok (.getfield 30, 3) := by decide +kernel
theorem dX5_find_50 : decode cX5_find 50 = .ok (.iconst 0, 1) := by decide +kernel
theorem dX5_find_51 : decode cX5_find 51 = .ok (.invokestatic 142, 3) := by decide +kernel
theorem dX5_find_54 : decode cX5_find 54 = .ok (.astore_n 2, 1) := by decide +kernel
theorem dX5_find_55 : decode cX5_find 55 = .ok (.aload_n 0, 1) := by decide +kernel
theorem dX5_find_56 : decode cX5_find 56 = .ok (.aload_n 2, 1) := by decide +kernel
theorem dX5_find_57 : decode cX5_find 57 = .ok (.aload_n 2, 1) := by decide +kernel
theorem dX5_find_58 : decode cX5_find 58 = .ok (.getfield 118, 3) := by decide +kernel
theorem dX5_find_61 : decode cX5_find 61 = .ok (.invokevirtual 95, 3) := by decide +kernel
theorem dX5_find_64 : decode cX5_find 64 = .ok (.ireturn, 1) := by decide +kernel
theorem dX5_price_0 : decode cX5_price 0 = .ok (.aload_n 0, 1) := by decide +kernel
theorem dX5_price_1 : decode cX5_price 1 = .ok (.iload_n 1, 1) := by decide +kernel
theorem dX5_price_2 : decode cX5_price 2 = .ok (.invokevirtual 47, 3) := by decide +kernel
theorem dX5_price_5 : decode cX5_price 5 = .ok (.astore_n 3, 1) := by decide +kernel
theorem dX5_price_6 : decode cX5_price 6 = .ok (.aload_n 0, 1) := by decide +kernel
theorem dX5_price_7 : decode cX5_price 7 = .ok (.iload_n 2, 1) := by decide +kernel
theorem dX5_price_8 : decode cX5_price 8 = .ok (.invokevirtual 99, 3) := by decide +kernel
theorem dX5_price_11 : decode cX5_price 11 = .ok (.astore 4, 2) := by decide +kernel
theorem dX5_price_13 : decode cX5_price 13 = .ok (.aload_n 3, 1) := by decide +kernel
theorem dX5_price_14 : decode cX5_price 14 = .ok (.ifnull 8, 3) := by decide +kernel
theorem dX5_price_17 : decode cX5_price 17 = .ok (.aload 4, 2) := by decide +kernel
theorem dX5_price_19 : decode cX5_price 19 = .ok (.ifnonnull 5, 3) := by decide +kernel
theorem dX5_price_22 : decode cX5_price 22 = .ok (.iconst (-1), 1) := by decide +kernel
theorem dX5_price_23 : decode cX5_price 23 = .ok (.ireturn, 1) := by decide +kernel
theorem dX5_price_24 : decode cX5_price 24 = .ok (.aload_n 0, 1) := by decide +kernel
theorem dX5_price_25 : decode cX5_price 25 = .ok (.getfield 24, 3) := by decide +kernel
theorem dX5_price_28 : decode cX5_price 28 = .ok (.aload_n 3, 1) := by decide +kernel
theorem dX5_price_29 : decode cX5_price 29 = .ok (.aload 4, 2) := by decide +kernel
theorem dX5_price_31 : decode cX5_price 31 = .ok (.invokevirtual 146, 3) := by decide +kernel
theorem dX5_price_34 : decode cX5_price 34 = .ok (.aload_n 0, 1) := by decide +kernel
theorem dX5_price_35 : decode cX5_price 35 = .ok (.getfield 24, 3) := by decide +kernel
theorem dX5_price_38 : decode cX5_price 38 = .ok (.getfield 150, 3) := by decide +kernel
theorem dX5_price_41 : decode cX5_price 41 = .ok (.ireturn, 1) := by decide +kernel
theorem dX5_both_0 : decode cX5_both 0 = .ok (.aload_n 0, 1) := by decide +kernel
theorem dX5_both_1 : decode cX5_both 1 = .ok (.iload_n 1, 1) := by decide +kernel
theorem dX5_both_2 : decode cX5_both 2 = .ok (.invokevirtual 47, 3) := by decide +kernel
theorem dX5_both_5 : decode cX5_both 5 = .ok (.astore_n 3, 1) := by decide +kernel
theorem dX5_both_6 : decode cX5_both 6 = .ok (.aload_n 0, 1) := by decide +kernel
theorem dX5_both_7 : decode cX5_both 7 = .ok (.iload_n 2, 1) := by decide +kernel
theorem dX5_both_8 : decode cX5_both 8 = .ok (.invokevirtual 99, 3) := by decide +kernel
theorem dX5_both_11 : decode cX5_both 11 = .ok (.astore 4, 2) := by decide +kernel
theorem dX5_both_13 : decode cX5_both 13 = .ok (.aload_n 3, 1) := by decide +kernel
theorem dX5_both_14 : decode cX5_both 14 = .ok (.ifnull 8, 3) := by decide +kernel
theorem dX5_both_17 : decode cX5_both 17 = .ok (.aload 4, 2) := by decide +kernel
theorem dX5_both_19 : decode cX5_both 19 = .ok (.ifnonnull 5, 3) := by decide +kernel
theorem dX5_both_22 : decode cX5_both 22 = .ok (.iconst (-1), 1) := by decide +kernel
theorem dX5_both_23 : decode cX5_both 23 = .ok (.ireturn, 1) := by decide +kernel
theorem dX5_both_24 : decode cX5_both 24 = .ok (.aload_n 0, 1) := by decide +kernel
theorem dX5_both_25 : decode cX5_both 25 = .ok (.getfield 24, 3) := by decide +kernel
theorem dX5_both_28 : decode cX5_both 28 = .ok (.aload_n 3, 1) := by decide +kernel
theorem dX5_both_29 : decode cX5_both 29 = .ok (.aload 4, 2) := by decide +kernel
theorem dX5_both_31 : decode cX5_both 31 = .ok (.invokevirtual 146, 3) := by decide +kernel
theorem dX5_both_34 : decode cX5_both 34 = .ok (.aload_n 0, 1) := by decide +kernel
theorem dX5_both_35 : decode cX5_both 35 = .ok (.getfield 24, 3) := by decide +kernel
theorem dX5_both_38 : decode cX5_both 38 = .ok (.getfield 153, 3) := by decide +kernel
theorem dX5_both_41 : decode cX5_both 41 = .ok (.ireturn, 1) := by decide +kernel
theorem dX5_shortest_0 : decode cX5_shortest 0 = .ok (.aload_n 0, 1) := by decide +kernel
theorem dX5_shortest_1 : decode cX5_shortest 1 = .ok (.iload_n 1, 1) := by decide +kernel
theorem dX5_shortest_2 : decode cX5_shortest 2 = .ok (.invokevirtual 99, 3) := by decide +kernel
theorem dX5_shortest_5 : decode cX5_shortest 5 = .ok (.astore_n 2, 1) := by decide +kernel
theorem dX5_shortest_6 : decode cX5_shortest 6 = .ok (.aload_n 2, 1) := by decide +kernel
theorem dX5_shortest_7 : decode cX5_shortest 7 = .ok (.ifnonnull 7, 3) := by decide +kernel
theorem dX5_shortest_10 : decode cX5_shortest 10 = .ok (.iconst (-1), 1) := by decide +kernel
theorem dX5_shortest_11 : decode cX5_shortest 11 = .ok (.goto 7, 3) := by decide +kernel
theorem dX5_shortest_14 : decode cX5_shortest 14 = .ok (.aload_n 2, 1) := by decide +kernel
theorem dX5_shortest_15 : decode cX5_shortest 15 = .ok (.getfield 154, 3) := by decide +kernel
theorem dX5_shortest_18 : decode cX5_shortest 18 = .ok (.ireturn, 1) := by decide +kernel
theorem dX5_fit_0 : decode cX5_fit 0 = .ok (.aload_n 0, 1) := by decide +kernel
theorem dX5_fit_1 : decode cX5_fit 1 = .ok (.iload_n 1, 1) := by decide +kernel
theorem dX5_fit_2 : decode cX5_fit 2 = .ok (.invokevirtual 99, 3) := by decide +kernel
theorem dX5_fit_5 : decode cX5_fit 5 = .ok (.astore_n 3, 1) := by decide +kernel
theorem dX5_fit_6 : decode cX5_fit 6 = .ok (.aload_n 3, 1) := by decide +kernel
theorem dX5_fit_7 : decode cX5_fit 7 = .ok (.ifnull 12, 3) := by decide +kernel
theorem dX5_fit_10 : decode cX5_fit 10 = .ok (.iload_n 2, 1) := by decide +kernel
theorem dX5_fit_11 : decode cX5_fit 11 = .ok (.ifCond .lt 8, 3) := by decide +kernel
theorem dX5_fit_14 : decode cX5_fit 14 = .ok (.iload_n 2, 1) := by decide +kernel
theorem dX5_fit_15 : decode cX5_fit 15 = .ok (.iconst 3, 1) := by decide +kernel
theorem dX5_fit_16 : decode cX5_fit 16 = .ok (.if_icmp .le 5, 3) := by decide +kernel
theorem dX5_fit_19 : decode cX5_fit 19 = .ok (.iconst (-1), 1) := by decide +kernel
theorem dX5_fit_20 : decode cX5_fit 20 = .ok (.ireturn, 1) := by decide +kernel
theorem dX5_fit_21 : decode cX5_fit 21 = .ok (.iload_n 2, 1) := by decide +kernel
theorem dX5_fit_22 : decode cX5_fit 22 = .ok (.iconst 2, 1) := by decide +kernel
theorem dX5_fit_23 : decode cX5_fit 23 = .ok (.if_icmp .ne 18, 3) := by decide +kernel
theorem dX5_fit_26 : decode cX5_fit 26 = .ok (.aload_n 0, 1) := by decide +kernel
theorem dX5_fit_27 : decode cX5_fit 27 = .ok (.invokevirtual 157, 3) := by decide +kernel
theorem dX5_fit_30 : decode cX5_fit 30 = .ok (.aload_n 0, 1) := by decide +kernel
theorem dX5_fit_31 : decode cX5_fit 31 = .ok (.invokevirtual 160, 3) := by decide +kernel
theorem dX5_fit_34 : decode cX5_fit 34 = .ok (.aload_n 3, 1) := by decide +kernel
theorem dX5_fit_35 : decode cX5_fit 35 = .ok (.getfield 154, 3) := by decide +kernel
theorem dX5_fit_38 : decode cX5_fit 38 = .ok (.imul, 1) := by decide +kernel
theorem dX5_fit_39 : decode cX5_fit 39 = .ok (.iadd, 1) := by decide +kernel
theorem dX5_fit_40 : decode cX5_fit 40 = .ok (.ireturn, 1) := by decide +kernel
theorem dX5_fit_41 : decode cX5_fit 41 = .ok (.iconst 0, 1) := by decide +kernel
theorem dX5_fit_42 : decode cX5_fit 42 = .ok (.istore 4, 2) := by decide +kernel
theorem dX5_fit_44 : decode cX5_fit 44 = .ok (.iconst 0, 1) := by decide +kernel
theorem dX5_fit_45 : decode cX5_fit 45 = .ok (.istore 5, 2) := by decide +kernel
theorem dX5_fit_47 : decode cX5_fit 47 = .ok (.bipush (-3), 2) := by decide +kernel
theorem dX5_fit_49 : decode cX5_fit 49 = .ok (.istore 6, 2) := by decide +kernel
theorem dX5_fit_51 : decode cX5_fit 51 = .ok (.iconst (-1), 1) := by decide +kernel
theorem dX5_fit_52 : decode cX5_fit 52 = .ok (.istore 7, 2) := by decide +kernel
theorem dX5_fit_54 : decode cX5_fit 54 = .ok (.iconst 0, 1) := by decide +kernel
theorem dX5_fit_55 : decode cX5_fit 55 = .ok (.istore 8, 2) := by decide +kernel
theorem dX5_fit_57 : decode cX5_fit 57 = .ok (.iload 8, 2) := by decide +kernel
theorem dX5_fit_59 : decode cX5_fit 59 = .ok (.aload_n 0, 1) := by decide +kernel
theorem dX5_fit_60 : decode cX5_fit 60 = .ok (.getfield 42, 3) := by decide +kernel
theorem dX5_fit_63 : decode cX5_fit 63 = .ok (.if_icmp .ge 85, 3) := by decide +kernel
theorem dX5_fit_66 : decode cX5_fit 66 = .ok (.aload_n 0, 1) := by decide +kernel
theorem dX5_fit_67 : decode cX5_fit 67 = .ok (.iload 8, 2) := by decide +kernel
theorem dX5_fit_69 : decode cX5_fit 69 = .ok (.invokevirtual 47, 3) := by decide +kernel
theorem dX5_fit_72 : decode cX5_fit 72 = .ok (.astore 9, 2) := by decide +kernel
theorem dX5_fit_74 : decode cX5_fit 74 = .ok (.aload 9, 2) := by decide +kernel
theorem dX5_fit_76 : decode cX5_fit 76 = .ok (.ifnonnull 6, 3) := by decide +kernel
theorem dX5_fit_79 : decode cX5_fit 79 = .ok (.goto 63, 3) := by decide +kernel
theorem dX5_fit_82 : decode cX5_fit 82 = .ok (.aload_n 0, 1) := by decide +kernel
theorem dX5_fit_83 : decode cX5_fit 83 = .ok (.getfield 24, 3) := by decide +kernel
theorem dX5_fit_86 : decode cX5_fit 86 = .ok (.aload 9, 2) := by decide +kernel
theorem dX5_fit_88 : decode cX5_fit 88 = .ok (.aload_n 3, 1) := by decide +kernel
theorem dX5_fit_89 : decode cX5_fit 89 = .ok (.invokevirtual 146, 3) := by decide +kernel
theorem dX5_fit_92 : decode cX5_fit 92 = .ok (.iload 5, 2) := by decide +kernel
theorem dX5_fit_94 : decode cX5_fit 94 = .ok (.aload_n 0, 1) := by decide +kernel
theorem dX5_fit_95 : decode cX5_fit 95 = .ok (.getfield 24, 3) := by decide +kernel
theorem dX5_fit_98 : decode cX5_fit 98 = .ok (.getfield 150, 3) := by decide +kernel
theorem dX5_fit_101 : decode cX5_fit 101 = .ok (.iadd, 1) := by decide +kernel
theorem dX5_fit_102 : decode cX5_fit 102 = .ok (.istore 5, 2) := by decide +kernel
theorem dX5_fit_104 : decode cX5_fit 104 = .ok (.aload_n 0, 1) := by decide +kernel
theorem dX5_fit_105 : decode cX5_fit 105 = .ok (.getfield 24, 3) := by decide +kernel
theorem dX5_fit_108 : decode cX5_fit 108 = .ok (.getfield 150, 3) := by decide +kernel
theorem dX5_fit_111 : decode cX5_fit 111 = .ok (.ifCond .ne 6, 3) := by decide +kernel
theorem dX5_fit_114 : decode cX5_fit 114 = .ok (.iinc 4 1, 3) := by decide +kernel
theorem dX5_fit_117 : decode cX5_fit 117 = .ok (.aload_n 0, 1) := by decide +kernel
theorem dX5_fit_118 : decode cX5_fit 118 = .ok (.getfield 24, 3) := by decide +kernel
theorem dX5_fit_121 : decode cX5_fit 121 = .ok (.getfield 150, 3) := by decide +kernel
theorem dX5_fit_124 : decode cX5_fit 124 = .ok (.iload 7, 2) := by decide +kernel
theorem dX5_fit_126 : decode cX5_fit 126 = .ok (.if_icmp .le 16, 3) := by decide +kernel
theorem dX5_fit_129 : decode cX5_fit 129 = .ok (.aload_n 0, 1) := by decide +kernel
theorem dX5_fit_130 : decode cX5_fit 130 = .ok (.getfield 24, 3) := by decide +kernel
theorem dX5_fit_133 : decode cX5_fit 133 = .ok (.getfield 150, 3) := by decide +kernel
theorem dX5_fit_136 : decode cX5_fit 136 = .ok (.istore 7, 2) := by decide +kernel
theorem dX5_fit_138 : decode cX5_fit 138 = .ok (.iload 8, 2) := by decide +kernel
theorem dX5_fit_140 : decode cX5_fit 140 = .ok (.istore 6, 2) := by decide +kernel
theorem dX5_fit_142 : decode cX5_fit 142 = .ok (.iinc 8 1, 3) := by decide +kernel
theorem dX5_fit_145 : decode cX5_fit 145 = .ok (.goto (-88), 3) := by decide +kernel
theorem dX5_fit_148 : decode cX5_fit 148 = .ok (.iload_n 2, 1) := by decide +kernel
theorem dX5_fit_149 : decode cX5_fit 149 = .ok (.ifCond .ne 8, 3) := by decide +kernel
theorem dX5_fit_152 : decode cX5_fit 152 = .ok (.iload 4, 2) := by decide +kernel
theorem dX5_fit_154 : decode cX5_fit 154 = .ok (.goto 15, 3) := by decide +kernel
theorem dX5_fit_157 : decode cX5_fit 157 = .ok (.iload_n 2, 1) := by decide +kernel
theorem dX5_fit_158 : decode cX5_fit 158 = .ok (.iconst 1, 1) := by decide +kernel
theorem dX5_fit_159 : decode cX5_fit 159 = .ok (.if_icmp .ne 8, 3) := by decide +kernel
theorem dX5_fit_162 : decode cX5_fit 162 = .ok (.iload 5, 2) := by decide +kernel
theorem dX5_fit_164 : decode cX5_fit 164 = .ok (.goto 5, 3) := by decide +kernel
theorem dX5_fit_167 : decode cX5_fit 167 = .ok (.iload 6, 2) := by decide +kernel
theorem dX5_fit_169 : decode cX5_fit 169 = .ok (.ireturn, 1) := by decide +kernel
theorem dX5_count_0 : decode cX5_count 0 = .ok (.iload_n 1, 1) := by decide +kernel
theorem dX5_count_1 : decode cX5_count 1 = .ok (.tableswitch 69 0 5 #[39, 44, 49, 54, 59, 64], 39) := by decide +kernel
theorem dX5_count_40 : decode cX5_count 40 = .ok (.aload_n 0, 1) := by decide +kernel
theorem dX5_count_41 : decode cX5_count 41 = .ok (.getfield 42, 3) := by decide +kernel
theorem dX5_count_44 : decode cX5_count 44 = .ok (.ireturn, 1) := by decide +kernel
theorem dX5_count_45 : decode cX5_count 45 = .ok (.aload_n 0, 1) := by decide +kernel
theorem dX5_count_46 : decode cX5_count 46 = .ok (.invokevirtual 160, 3) := by decide +kernel
theorem dX5_count_49 : decode cX5_count 49 = .ok (.ireturn, 1) := by decide +kernel
theorem dX5_count_50 : decode cX5_count 50 = .ok (.aload_n 0, 1) := by decide +kernel
theorem dX5_count_51 : decode cX5_count 51 = .ok (.invokevirtual 157, 3) := by decide +kernel
theorem dX5_count_54 : decode cX5_count 54 = .ok (.ireturn, 1) := by decide +kernel
theorem dX5_count_55 : decode cX5_count 55 = .ok (.aload_n 0, 1) := by decide +kernel
theorem dX5_count_56 : decode cX5_count 56 = .ok (.invokevirtual 178, 3) := by decide +kernel
theorem dX5_count_59 : decode cX5_count 59 = .ok (.ireturn, 1) := by decide +kernel
theorem dX5_count_60 : decode cX5_count 60 = .ok (.aload_n 0, 1) := by decide +kernel
theorem dX5_count_61 : decode cX5_count 61 = .ok (.getfield 181, 3) := by decide +kernel
theorem dX5_count_64 : decode cX5_count 64 = .ok (.ireturn, 1) := by decide +kernel
theorem dX5_count_65 : decode cX5_count 65 = .ok (.aload_n 0, 1) := by decide +kernel
theorem dX5_count_66 : decode cX5_count 66 = .ok (.invokevirtual 184, 3) := by decide +kernel
theorem dX5_count_69 : decode cX5_count 69 = .ok (.ireturn, 1) := by decide +kernel
theorem dX5_count_70 : decode cX5_count 70 = .ok (.iconst (-1), 1) := by decide +kernel
theorem dX5_count_71 : decode cX5_count 71 = .ok (.ireturn, 1) := by decide +kernel
theorem dX5_isName_0 : decode cX5_isName 0 = .ok (.iload_n 0, 1) := by decide +kernel
theorem dX5_isName_1 : decode cX5_isName 1 = .ok (.ifCond .lt 13, 3) := by decide +kernel
theorem dX5_isName_4 : decode cX5_isName 4 = .ok (.iload_n 0, 1) := by decide +kernel
theorem dX5_isName_5 : decode cX5_isName 5 = .ok (.bipush 12, 2) := by decide +kernel
theorem dX5_isName_7 : decode cX5_isName 7 = .ok (.if_icmp .ge 7, 3) := by decide +kernel
theorem dX5_isName_10 : decode cX5_isName 10 = .ok (.iconst 1, 1) := by decide +kernel
theorem dX5_isName_11 : decode cX5_isName 11 = .ok (.goto 4, 3) := by decide +kernel
theorem dX5_isName_14 : decode cX5_isName 14 = .ok (.iconst 0, 1) := by decide +kernel
theorem dX5_isName_15 : decode cX5_isName 15 = .ok (.ireturn, 1) := by decide +kernel
theorem dX5_isHand_0 : decode cX5_isHand 0 = .ok (.iload_n 0, 1) := by decide +kernel
theorem dX5_isHand_1 : decode cX5_isHand 1 = .ok (.ifCond .lt 13, 3) := by decide +kernel
theorem dX5_isHand_4 : decode cX5_isHand 4 = .ok (.iload_n 0, 1) := by decide +kernel
theorem dX5_isHand_5 : decode cX5_isHand 5 = .ok (.bipush 8, 2) := by decide +kernel
theorem dX5_isHand_7 : decode cX5_isHand 7 = .ok (.if_icmp .ge 7, 3) := by decide +kernel
theorem dX5_isHand_10 : decode cX5_isHand 10 = .ok (.iconst 1, 1) := by decide +kernel
theorem dX5_isHand_11 : decode cX5_isHand 11 = .ok (.goto 4, 3) := by decide +kernel
theorem dX5_isHand_14 : decode cX5_isHand 14 = .ok (.iconst 0, 1) := by decide +kernel
theorem dX5_isHand_15 : decode cX5_isHand 15 = .ok (.ireturn, 1) := by decide +kernel
theorem dX5_isTime_0 : decode cX5_isTime 0 = .ok (.iload_n 0, 1) := by decide +kernel
theorem dX5_isTime_1 : decode cX5_isTime 1 = .ok (.iconst (-1), 1) := by decide +kernel
theorem dX5_isTime_2 : decode cX5_isTime 2 = .ok (.if_icmp .eq 13, 3) := by decide +kernel
theorem dX5_isTime_5 : decode cX5_isTime 5 = .ok (.iload_n 0, 1) := by decide +kernel
theorem dX5_isTime_6 : decode cX5_isTime 6 = .ok (.ifCond .lt 13, 3) := by decide +kernel
theorem dX5_isTime_9 : decode cX5_isTime 9 = .ok (.iload_n 0, 1) := by decide +kernel
theorem dX5_isTime_10 : decode cX5_isTime 10 = .ok (.ldc 187, 2) := by decide +kernel
theorem dX5_isTime_12 : decode cX5_isTime 12 = .ok (.if_icmp .gt 7, 3) := by decide +kernel
theorem dX5_isTime_15 : decode cX5_isTime 15 = .ok (.iconst 1, 1) := by decide +kernel
theorem dX5_isTime_16 : decode cX5_isTime 16 = .ok (.goto 4, 3) := by decide +kernel
theorem dX5_isTime_19 : decode cX5_isTime 19 = .ok (.iconst 0, 1) := by decide +kernel
theorem dX5_isTime_20 : decode cX5_isTime 20 = .ok (.ireturn, 1) := by decide +kernel
theorem dX5_caseAt_0 : decode cX5_caseAt 0 = .ok (.iload_n 1, 1) := by decide +kernel
theorem dX5_caseAt_1 : decode cX5_caseAt 1 = .ok (.ifCond .lt 29, 3) := by decide +kernel
theorem dX5_caseAt_4 : decode cX5_caseAt 4 = .ok (.iload_n 1, 1) := by decide +kernel
theorem dX5_caseAt_5 : decode cX5_caseAt 5 = .ok (.aload_n 0, 1) := by decide +kernel
theorem dX5_caseAt_6 : decode cX5_caseAt 6 = .ok (.getfield 42, 3) := by decide +kernel
theorem dX5_caseAt_9 : decode cX5_caseAt 9 = .ok (.if_icmp .ge 21, 3) := by decide +kernel
theorem dX5_caseAt_12 : decode cX5_caseAt 12 = .ok (.iload_n 1, 1) := by decide +kernel
theorem dX5_caseAt_13 : decode cX5_caseAt 13 = .ok (.aload_n 0, 1) := by decide +kernel
theorem dX5_caseAt_14 : decode cX5_caseAt 14 = .ok (.getfield 11, 3) := by decide +kernel
theorem dX5_caseAt_17 : decode cX5_caseAt 17 = .ok (.arraylength, 1) := by decide +kernel
theorem dX5_caseAt_18 : decode cX5_caseAt 18 = .ok (.if_icmp .ge 12, 3) := by decide +kernel
theorem dX5_caseAt_21 : decode cX5_caseAt 21 = .ok (.aload_n 0, 1) := by decide +kernel
theorem dX5_caseAt_22 : decode cX5_caseAt 22 = .ok (.getfield 11, 3) := by decide +kernel
theorem dX5_caseAt_25 : decode cX5_caseAt 25 = .ok (.iload_n 1, 1) := by decide +kernel
theorem dX5_caseAt_26 : decode cX5_caseAt 26 = .ok (.aaload, 1) := by decide +kernel
theorem dX5_caseAt_27 : decode cX5_caseAt 27 = .ok (.goto 4, 3) := by decide +kernel
theorem dX5_caseAt_30 : decode cX5_caseAt 30 = .ok (.aconst_null, 1) := by decide +kernel
theorem dX5_caseAt_31 : decode cX5_caseAt 31 = .ok (.areturn, 1) := by decide +kernel
theorem dX5_inLog_0 : decode cX5_inLog 0 = .ok (.aload_n 0, 1) := by decide +kernel
theorem dX5_inLog_1 : decode cX5_inLog 1 = .ok (.iload_n 1, 1) := by decide +kernel
theorem dX5_inLog_2 : decode cX5_inLog 2 = .ok (.invokevirtual 68, 3) := by decide +kernel
theorem dX5_inLog_5 : decode cX5_inLog 5 = .ok (.astore_n 2, 1) := by decide +kernel
theorem dX5_inLog_6 : decode cX5_inLog 6 = .ok (.aload_n 2, 1) := by decide +kernel
theorem dX5_inLog_7 : decode cX5_inLog 7 = .ok (.ifnull 10, 3) := by decide +kernel
theorem dX5_inLog_10 : decode cX5_inLog 10 = .ok (.aload_n 2, 1) := by decide +kernel
theorem dX5_inLog_11 : decode cX5_inLog 11 = .ok (.getfield 71, 3) := by decide +kernel
theorem dX5_inLog_14 : decode cX5_inLog 14 = .ok (.ifCond .eq 7, 3) := by decide +kernel
theorem dX5_inLog_17 : decode cX5_inLog 17 = .ok (.aconst_null, 1) := by decide +kernel
theorem dX5_inLog_18 : decode cX5_inLog 18 = .ok (.goto 4, 3) := by decide +kernel
theorem dX5_inLog_21 : decode cX5_inLog 21 = .ok (.aload_n 2, 1) := by decide +kernel
theorem dX5_inLog_22 : decode cX5_inLog 22 = .ok (.areturn, 1) := by decide +kernel
theorem dX5_pieceAt_0 : decode cX5_pieceAt 0 = .ok (.iload_n 1, 1) := by decide +kernel
theorem dX5_pieceAt_1 : decode cX5_pieceAt 1 = .ok (.ifCond .lt 29, 3) := by decide +kernel
theorem dX5_pieceAt_4 : decode cX5_pieceAt 4 = .ok (.iload_n 1, 1) := by decide +kernel
theorem dX5_pieceAt_5 : decode cX5_pieceAt 5 = .ok (.aload_n 0, 1) := by decide +kernel
theorem dX5_pieceAt_6 : decode cX5_pieceAt 6 = .ok (.getfield 181, 3) := by decide +kernel
theorem dX5_pieceAt_9 : decode cX5_pieceAt 9 = .ok (.if_icmp .ge 21, 3) := by decide +kernel
theorem dX5_pieceAt_12 : decode cX5_pieceAt 12 = .ok (.iload_n 1, 1) := by decide +kernel
theorem dX5_pieceAt_13 : decode cX5_pieceAt 13 = .ok (.aload_n 0, 1) := by decide +kernel
theorem dX5_pieceAt_14 : decode cX5_pieceAt 14 = .ok (.getfield 17, 3) := by decide +kernel
theorem dX5_pieceAt_17 : decode cX5_pieceAt 17 = .ok (.arraylength, 1) := by decide +kernel
theorem dX5_pieceAt_18 : decode cX5_pieceAt 18 = .ok (.if_icmp .ge 12, 3) := by decide +kernel
theorem dX5_pieceAt_21 : decode cX5_pieceAt 21 = .ok (.aload_n 0, 1) := by decide +kernel
theorem dX5_pieceAt_22 : decode cX5_pieceAt 22 = .ok (.getfield 17, 3) := by decide +kernel
theorem dX5_pieceAt_25 : decode cX5_pieceAt 25 = .ok (.iload_n 1, 1) := by decide +kernel
theorem dX5_pieceAt_26 : decode cX5_pieceAt 26 = .ok (.aaload, 1) := by decide +kernel
theorem dX5_pieceAt_27 : decode cX5_pieceAt 27 = .ok (.goto 4, 3) := by decide +kernel
theorem dX5_pieceAt_30 : decode cX5_pieceAt 30 = .ok (.aconst_null, 1) := by decide +kernel
theorem dX5_pieceAt_31 : decode cX5_pieceAt 31 = .ok (.areturn, 1) := by decide +kernel
theorem dX5_pairs_0 : decode cX5_pairs 0 = .ok (.iconst 0, 1) := by decide +kernel
theorem dX5_pairs_1 : decode cX5_pairs 1 = .ok (.istore 4, 2) := by decide +kernel
theorem dX5_pairs_3 : decode cX5_pairs 3 = .ok (.iconst 0, 1) := by decide +kernel
theorem dX5_pairs_4 : decode cX5_pairs 4 = .ok (.istore 5, 2) := by decide +kernel
theorem dX5_pairs_6 : decode cX5_pairs 6 = .ok (.iload 5, 2) := by decide +kernel
theorem dX5_pairs_8 : decode cX5_pairs 8 = .ok (.aload_n 0, 1) := by decide +kernel
theorem dX5_pairs_9 : decode cX5_pairs 9 = .ok (.getfield 42, 3) := by decide +kernel
theorem dX5_pairs_12 : decode cX5_pairs 12 = .ok (.if_icmp .ge 73, 3) := by decide +kernel
theorem dX5_pairs_15 : decode cX5_pairs 15 = .ok (.aload_n 0, 1) := by decide +kernel
theorem dX5_pairs_16 : decode cX5_pairs 16 = .ok (.iload 5, 2) := by decide +kernel
theorem dX5_pairs_18 : decode cX5_pairs 18 = .ok (.invokevirtual 47, 3) := by decide +kernel
theorem dX5_pairs_21 : decode cX5_pairs 21 = .ok (.astore 6, 2) := by decide +kernel
theorem dX5_pairs_23 : decode cX5_pairs 23 = .ok (.aload 6, 2) := by decide +kernel
theorem dX5_pairs_25 : decode cX5_pairs 25 = .ok (.ifnonnull 6, 3) := by decide +kernel
theorem dX5_pairs_28 : decode cX5_pairs 28 = .ok (.goto 51, 3) := by decide +kernel
theorem dX5_pairs_31 : decode cX5_pairs 31 = .ok (.iconst 1, 1) := by decide +kernel
theorem dX5_pairs_32 : decode cX5_pairs 32 = .ok (.istore 7, 2) := by decide +kernel
theorem dX5_pairs_34 : decode cX5_pairs 34 = .ok (.iload 7, 2) := by decide +kernel
theorem dX5_pairs_36 : decode cX5_pairs 36 = .ok (.aload 6, 2) := by decide +kernel
theorem dX5_pairs_38 : decode cX5_pairs 38 = .ok (.getfield 61, 3) := by decide +kernel
theorem dX5_pairs_41 : decode cX5_pairs 41 = .ok (.if_icmp .ge 38, 3) := by decide +kernel
theorem dX5_pairs_44 : decode cX5_pairs 44 = .ok (.aload 6, 2) := by decide +kernel
theorem dX5_pairs_46 : decode cX5_pairs 46 = .ok (.iload 7, 2) := by decide +kernel
theorem dX5_pairs_48 : decode cX5_pairs 48 = .ok (.iconst 1, 1) := by decide +kernel
theorem dX5_pairs_49 : decode cX5_pairs 49 = .ok (.isub, 1) := by decide +kernel
theorem dX5_pairs_50 : decode cX5_pairs 50 = .ok (.iload_n 1, 1) := by decide +kernel
theorem dX5_pairs_51 : decode cX5_pairs 51 = .ok (.invokevirtual 75, 3) := by decide +kernel
theorem dX5_pairs_54 : decode cX5_pairs 54 = .ok (.iload_n 2, 1) := by decide +kernel
theorem dX5_pairs_55 : decode cX5_pairs 55 = .ok (.if_icmp .ne 18, 3) := by decide +kernel
theorem dX5_pairs_58 : decode cX5_pairs 58 = .ok (.aload 6, 2) := by decide +kernel
theorem dX5_pairs_60 : decode cX5_pairs 60 = .ok (.iload 7, 2) := by decide +kernel
theorem dX5_pairs_62 : decode cX5_pairs 62 = .ok (.iload_n 1, 1) := by decide +kernel
theorem dX5_pairs_63 : decode cX5_pairs 63 = .ok (.invokevirtual 75, 3) := by decide +kernel
theorem dX5_pairs_66 : decode cX5_pairs 66 = .ok (.iload_n 3, 1) := by decide +kernel
theorem dX5_pairs_67 : decode cX5_pairs 67 = .ok (.if_icmp .ne 6, 3) := by decide +kernel
theorem dX5_pairs_70 : decode cX5_pairs 70 = .ok (.iinc 4 1, 3) := by decide +kernel
theorem dX5_pairs_73 : decode cX5_pairs 73 = .ok (.iinc 7 1, 3) := by decide +kernel
theorem dX5_pairs_76 : decode cX5_pairs 76 = .ok (.goto (-42), 3) := by decide +kernel
theorem dX5_pairs_79 : decode cX5_pairs 79 = .ok (.iinc 5 1, 3) := by decide +kernel
theorem dX5_pairs_82 : decode cX5_pairs 82 = .ok (.goto (-76), 3) := by decide +kernel
theorem dX5_pairs_85 : decode cX5_pairs 85 = .ok (.iload 4, 2) := by decide +kernel
theorem dX5_pairs_87 : decode cX5_pairs 87 = .ok (.ireturn, 1) := by decide +kernel
theorem dX5_trailsInLog_0 : decode cX5_trailsInLog 0 = .ok (.iconst 0, 1) := by decide +kernel
theorem dX5_trailsInLog_1 : decode cX5_trailsInLog 1 = .ok (.istore_n 1, 1) := by decide +kernel
theorem dX5_trailsInLog_2 : decode cX5_trailsInLog 2 = .ok (.iconst 0, 1) := by decide +kernel
theorem dX5_trailsInLog_3 : decode cX5_trailsInLog 3 = .ok (.istore_n 2, 1) := by decide +kernel
theorem dX5_trailsInLog_4 : decode cX5_trailsInLog 4 = .ok (.iload_n 2, 1) := by decide +kernel
theorem dX5_trailsInLog_5 : decode cX5_trailsInLog 5 = .ok (.aload_n 0, 1) := by decide +kernel
theorem dX5_trailsInLog_6 : decode cX5_trailsInLog 6 = .ok (.getfield 42, 3) := by decide +kernel
theorem dX5_trailsInLog_9 : decode cX5_trailsInLog 9 = .ok (.if_icmp .ge 20, 3) := by decide +kernel
theorem dX5_trailsInLog_12 : decode cX5_trailsInLog 12 = .ok (.aload_n 0, 1) := by decide +kernel
theorem dX5_trailsInLog_13 : decode cX5_trailsInLog 13 = .ok (.iload_n 2, 1) := by decide +kernel
theorem dX5_trailsInLog_14 : decode cX5_trailsInLog 14 = .ok (.invokevirtual 47, 3) := by decide +kernel
theorem dX5_trailsInLog_17 : decode cX5_trailsInLog 17 = .ok (.ifnull 6, 3) := by decide +kernel
theorem dX5_trailsInLog_20 : decode cX5_trailsInLog 20 = .ok (.iinc 1 1, 3) := by decide +kernel
theorem dX5_trailsInLog_23 : decode cX5_trailsInLog 23 = .ok (.iinc 2 1, 3) := by decide +kernel
theorem dX5_trailsInLog_26 : decode cX5_trailsInLog 26 = .ok (.goto (-22), 3) := by decide +kernel
theorem dX5_trailsInLog_29 : decode cX5_trailsInLog 29 = .ok (.iload_n 1, 1) := by decide +kernel
theorem dX5_trailsInLog_30 : decode cX5_trailsInLog 30 = .ok (.ireturn, 1) := by decide +kernel
theorem dX5_deedsInLog_0 : decode cX5_deedsInLog 0 = .ok (.iconst 0, 1) := by decide +kernel
theorem dX5_deedsInLog_1 : decode cX5_deedsInLog 1 = .ok (.istore_n 1, 1) := by decide +kernel
theorem dX5_deedsInLog_2 : decode cX5_deedsInLog 2 = .ok (.iconst 0, 1) := by decide +kernel
theorem dX5_deedsInLog_3 : decode cX5_deedsInLog 3 = .ok (.istore_n 2, 1) := by decide +kernel
theorem dX5_deedsInLog_4 : decode cX5_deedsInLog 4 = .ok (.iload_n 2, 1) := by decide +kernel
theorem dX5_deedsInLog_5 : decode cX5_deedsInLog 5 = .ok (.aload_n 0, 1) := by decide +kernel
theorem dX5_deedsInLog_6 : decode cX5_deedsInLog 6 = .ok (.getfield 42, 3) := by decide +kernel
theorem dX5_deedsInLog_9 : decode cX5_deedsInLog 9 = .ok (.if_icmp .ge 26, 3) := by decide +kernel
theorem dX5_deedsInLog_12 : decode cX5_deedsInLog 12 = .ok (.aload_n 0, 1) := by decide +kernel
theorem dX5_deedsInLog_13 : decode cX5_deedsInLog 13 = .ok (.iload_n 2, 1) := by decide +kernel
theorem dX5_deedsInLog_14 : decode cX5_deedsInLog 14 = .ok (.invokevirtual 47, 3) := by decide +kernel
theorem dX5_deedsInLog_17 : decode cX5_deedsInLog 17 = .ok (.astore_n 3, 1) := by decide +kernel
theorem dX5_deedsInLog_18 : decode cX5_deedsInLog 18 = .ok (.aload_n 3, 1) := by decide +kernel
theorem dX5_deedsInLog_19 : decode cX5_deedsInLog 19 = .ok (.ifnull 10, 3) := by decide +kernel
theorem dX5_deedsInLog_22 : decode cX5_deedsInLog 22 = .ok (.iload_n 1, 1) := by decide +kernel
theorem dX5_deedsInLog_23 : decode cX5_deedsInLog 23 = .ok (.aload_n 3, 1) := by decide +kernel
theorem dX5_deedsInLog_24 : decode cX5_deedsInLog 24 = .ok (.getfield 61, 3) := by decide +kernel
theorem dX5_deedsInLog_27 : decode cX5_deedsInLog 27 = .ok (.iadd, 1) := by decide +kernel
theorem dX5_deedsInLog_28 : decode cX5_deedsInLog 28 = .ok (.istore_n 1, 1) := by decide +kernel
theorem dX5_deedsInLog_29 : decode cX5_deedsInLog 29 = .ok (.iinc 2 1, 3) := by decide +kernel
theorem dX5_deedsInLog_32 : decode cX5_deedsInLog 32 = .ok (.goto (-28), 3) := by decide +kernel
theorem dX5_deedsInLog_35 : decode cX5_deedsInLog 35 = .ok (.iload_n 1, 1) := by decide +kernel
theorem dX5_deedsInLog_36 : decode cX5_deedsInLog 36 = .ok (.ireturn, 1) := by decide +kernel
theorem dX5_namesInLog_0 : decode cX5_namesInLog 0 = .ok (.iconst 0, 1) := by decide +kernel
theorem dX5_namesInLog_1 : decode cX5_namesInLog 1 = .ok (.istore_n 1, 1) := by decide +kernel
theorem dX5_namesInLog_2 : decode cX5_namesInLog 2 = .ok (.iconst 0, 1) := by decide +kernel
theorem dX5_namesInLog_3 : decode cX5_namesInLog 3 = .ok (.istore_n 2, 1) := by decide +kernel
theorem dX5_namesInLog_4 : decode cX5_namesInLog 4 = .ok (.iload_n 2, 1) := by decide +kernel
theorem dX5_namesInLog_5 : decode cX5_namesInLog 5 = .ok (.bipush 12, 2) := by decide +kernel
theorem dX5_namesInLog_7 : decode cX5_namesInLog 7 = .ok (.if_icmp .ge 21, 3) := by decide +kernel
theorem dX5_namesInLog_10 : decode cX5_namesInLog 10 = .ok (.aload_n 0, 1) := by decide +kernel
theorem dX5_namesInLog_11 : decode cX5_namesInLog 11 = .ok (.iload_n 2, 1) := by decide +kernel
theorem dX5_namesInLog_12 : decode cX5_namesInLog 12 = .ok (.iconst 2, 1) := by decide +kernel
theorem dX5_namesInLog_13 : decode cX5_namesInLog 13 = .ok (.invokevirtual 188, 3) := by decide +kernel
theorem dX5_namesInLog_16 : decode cX5_namesInLog 16 = .ok (.ifCond .le 6, 3) := by decide +kernel
theorem dX5_namesInLog_19 : decode cX5_namesInLog 19 = .ok (.iinc 1 1, 3) := by decide +kernel
theorem dX5_namesInLog_22 : decode cX5_namesInLog 22 = .ok (.iinc 2 1, 3) := by decide +kernel
theorem dX5_namesInLog_25 : decode cX5_namesInLog 25 = .ok (.goto (-21), 3) := by decide +kernel
theorem dX5_namesInLog_28 : decode cX5_namesInLog 28 = .ok (.iload_n 1, 1) := by decide +kernel
theorem dX5_namesInLog_29 : decode cX5_namesInLog 29 = .ok (.ireturn, 1) := by decide +kernel
theorem dX5_unlikeTrails_0 : decode cX5_unlikeTrails 0 = .ok (.iconst 0, 1) := by decide +kernel
theorem dX5_unlikeTrails_1 : decode cX5_unlikeTrails 1 = .ok (.istore_n 1, 1) := by decide +kernel
theorem dX5_unlikeTrails_2 : decode cX5_unlikeTrails 2 = .ok (.iconst 0, 1) := by decide +kernel
theorem dX5_unlikeTrails_3 : decode cX5_unlikeTrails 3 = .ok (.istore_n 2, 1) := by decide +kernel
theorem dX5_unlikeTrails_4 : decode cX5_unlikeTrails 4 = .ok (.iload_n 2, 1) := by decide +kernel
theorem dX5_unlikeTrails_5 : decode cX5_unlikeTrails 5 = .ok (.aload_n 0, 1) := by decide +kernel
theorem dX5_unlikeTrails_6 : decode cX5_unlikeTrails 6 = .ok (.getfield 42, 3) := by decide +kernel
theorem dX5_unlikeTrails_9 : decode cX5_unlikeTrails 9 = .ok (.if_icmp .ge 34, 3) := by decide +kernel
theorem dX5_unlikeTrails_12 : decode cX5_unlikeTrails 12 = .ok (.aload_n 0, 1) := by decide +kernel
theorem dX5_unlikeTrails_13 : decode cX5_unlikeTrails 13 = .ok (.iload_n 2, 1) := by decide +kernel
theorem dX5_unlikeTrails_14 : decode cX5_unlikeTrails 14 = .ok (.invokevirtual 47, 3) := by decide +kernel
theorem dX5_unlikeTrails_17 : decode cX5_unlikeTrails 17 = .ok (.astore_n 3, 1) := by decide +kernel
theorem dX5_unlikeTrails_18 : decode cX5_unlikeTrails 18 = .ok (.aload_n 3, 1) := by decide +kernel
theorem dX5_unlikeTrails_19 : decode cX5_unlikeTrails 19 = .ok (.ifnull 18, 3) := by decide +kernel
theorem dX5_unlikeTrails_22 : decode cX5_unlikeTrails 22 = .ok (.aload_n 0, 1) := by decide +kernel
theorem dX5_unlikeTrails_23 : decode cX5_unlikeTrails 23 = .ok (.aload_n 3, 1) := by decide +kernel
theorem dX5_unlikeTrails_24 : decode cX5_unlikeTrails 24 = .ok (.invokevirtual 135, 3) := by decide +kernel
theorem dX5_unlikeTrails_27 : decode cX5_unlikeTrails 27 = .ok (.iload_n 2, 1) := by decide +kernel
theorem dX5_unlikeTrails_28 : decode cX5_unlikeTrails 28 = .ok (.invokevirtual 191, 3) := by decide +kernel
theorem dX5_unlikeTrails_31 : decode cX5_unlikeTrails 31 = .ok (.ifCond .ne 6, 3) := by decide +kernel
theorem dX5_unlikeTrails_34 : decode cX5_unlikeTrails 34 = .ok (.iinc 1 1, 3) := by decide +kernel
theorem dX5_unlikeTrails_37 : decode cX5_unlikeTrails 37 = .ok (.iinc 2 1, 3) := by decide +kernel
theorem dX5_unlikeTrails_40 : decode cX5_unlikeTrails 40 = .ok (.goto (-36), 3) := by decide +kernel
theorem dX5_unlikeTrails_43 : decode cX5_unlikeTrails 43 = .ok (.iload_n 1, 1) := by decide +kernel
theorem dX5_unlikeTrails_44 : decode cX5_unlikeTrails 44 = .ok (.ireturn, 1) := by decide +kernel
theorem dX5_stoodAhead_0 : decode cX5_stoodAhead 0 = .ok (.iconst 0, 1) := by decide +kernel
theorem dX5_stoodAhead_1 : decode cX5_stoodAhead 1 = .ok (.istore_n 3, 1) := by decide +kernel
theorem dX5_stoodAhead_2 : decode cX5_stoodAhead 2 = .ok (.iload_n 3, 1) := by decide +kernel
theorem dX5_stoodAhead_3 : decode cX5_stoodAhead 3 = .ok (.iload_n 2, 1) := by decide +kernel
theorem dX5_stoodAhead_4 : decode cX5_stoodAhead 4 = .ok (.if_icmp .ge 32, 3) := by decide +kernel
theorem dX5_stoodAhead_7 : decode cX5_stoodAhead 7 = .ok (.aload_n 0, 1) := by decide +kernel
theorem dX5_stoodAhead_8 : decode cX5_stoodAhead 8 = .ok (.iload_n 3, 1) := by decide +kernel
theorem dX5_stoodAhead_9 : decode cX5_stoodAhead 9 = .ok (.invokevirtual 47, 3) := by decide +kernel
theorem dX5_stoodAhead_12 : decode cX5_stoodAhead 12 = .ok (.astore 4, 2) := by decide +kernel
theorem dX5_stoodAhead_14 : decode cX5_stoodAhead 14 = .ok (.aload 4, 2) := by decide +kernel
theorem dX5_stoodAhead_16 : decode cX5_stoodAhead 16 = .ok (.ifnull 14, 3) := by decide +kernel
theorem dX5_stoodAhead_19 : decode cX5_stoodAhead 19 = .ok (.aload 4, 2) := by decide +kernel
theorem dX5_stoodAhead_21 : decode cX5_stoodAhead 21 = .ok (.invokevirtual 135, 3) := by decide +kernel
theorem dX5_stoodAhead_24 : decode cX5_stoodAhead 24 = .ok (.iload_n 1, 1) := by decide +kernel
theorem dX5_stoodAhead_25 : decode cX5_stoodAhead 25 = .ok (.if_icmp .ne 5, 3) := by decide +kernel
theorem dX5_stoodAhead_28 : decode cX5_stoodAhead 28 = .ok (.iconst 1, 1) := by decide +kernel
theorem dX5_stoodAhead_29 : decode cX5_stoodAhead 29 = .ok (.ireturn, 1) := by decide +kernel
theorem dX5_stoodAhead_30 : decode cX5_stoodAhead 30 = .ok (.iinc 3 1, 3) := by decide +kernel
theorem dX5_stoodAhead_33 : decode cX5_stoodAhead 33 = .ok (.goto (-31), 3) := by decide +kernel
theorem dX5_stoodAhead_36 : decode cX5_stoodAhead 36 = .ok (.iconst 0, 1) := by decide +kernel
theorem dX5_stoodAhead_37 : decode cX5_stoodAhead 37 = .ok (.ireturn, 1) := by decide +kernel
theorem dX5_keep_0 : decode cX5_keep 0 = .ok (.aload_n 1, 1) := by decide +kernel
theorem dX5_keep_1 : decode cX5_keep 1 = .ok (.getfield 118, 3) := by decide +kernel
theorem dX5_keep_4 : decode cX5_keep 4 = .ok (.bipush 60, 2) := by decide +kernel
theorem dX5_keep_6 : decode cX5_keep 6 = .ok (.if_icmp .gt 15, 3) := by decide +kernel
theorem dX5_keep_9 : decode cX5_keep 9 = .ok (.aload_n 0, 1) := by decide +kernel
theorem dX5_keep_10 : decode cX5_keep 10 = .ok (.getfield 181, 3) := by decide +kernel
theorem dX5_keep_13 : decode cX5_keep 13 = .ok (.iload_n 2, 1) := by decide +kernel
theorem dX5_keep_14 : decode cX5_keep 14 = .ok (.iadd, 1) := by decide +kernel
theorem dX5_keep_15 : decode cX5_keep 15 = .ok (.sipush 200, 3) := by decide +kernel
theorem dX5_keep_18 : decode cX5_keep 18 = .ok (.if_icmp .le 6, 3) := by decide +kernel
theorem dX5_keep_21 : decode cX5_keep 21 = .ok (.bipush (-2), 2) := by decide +kernel
theorem dX5_keep_23 : decode cX5_keep 23 = .ok (.ireturn, 1) := by decide +kernel
theorem dX5_keep_24 : decode cX5_keep 24 = .ok (.aload_n 0, 1) := by decide +kernel
theorem dX5_keep_25 : decode cX5_keep 25 = .ok (.aload_n 1, 1) := by decide +kernel
theorem dX5_keep_26 : decode cX5_keep 26 = .ok (.aload_n 0, 1) := by decide +kernel
theorem dX5_keep_27 : decode cX5_keep 27 = .ok (.getfield 17, 3) := by decide +kernel
theorem dX5_keep_30 : decode cX5_keep 30 = .ok (.aload_n 0, 1) := by decide +kernel
theorem dX5_keep_31 : decode cX5_keep 31 = .ok (.getfield 181, 3) := by decide +kernel
theorem dX5_keep_34 : decode cX5_keep 34 = .ok (.iconst 0, 1) := by decide +kernel
theorem dX5_keep_35 : decode cX5_keep 35 = .ok (.invokestatic 205, 3) := by decide +kernel
theorem dX5_keep_38 : decode cX5_keep 38 = .ok (.putfield 181, 3) := by decide +kernel
theorem dX5_keep_41 : decode cX5_keep 41 = .ok (.aload_n 1, 1) := by decide +kernel
theorem dX5_keep_42 : decode cX5_keep 42 = .ok (.getfield 121, 3) := by decide +kernel
theorem dX5_keep_45 : decode cX5_keep 45 = .ok (.ireturn, 1) := by decide +kernel
theorem dX5_enter_0 : decode cX5_enter 0 = .ok (.aload_n 0, 1) := by decide +kernel
theorem dX5_enter_1 : decode cX5_enter 1 = .ok (.getfield 121, 3) := by decide +kernel
theorem dX5_enter_4 : decode cX5_enter 4 = .ok (.bipush (-3), 2) := by decide +kernel
theorem dX5_enter_6 : decode cX5_enter 6 = .ok (.if_icmp .ne 9, 3) := by decide +kernel
theorem dX5_enter_9 : decode cX5_enter 9 = .ok (.iload_n 3, 1) := by decide +kernel
theorem dX5_enter_10 : decode cX5_enter 10 = .ok (.bipush 40, 2) := by decide +kernel
theorem dX5_enter_12 : decode cX5_enter 12 = .ok (.if_icmp .le 5, 3) := by decide +kernel
theorem dX5_enter_15 : decode cX5_enter 15 = .ok (.iload_n 2, 1) := by decide +kernel
theorem dX5_enter_16 : decode cX5_enter 16 = .ok (.ireturn, 1) := by decide +kernel
theorem dX5_enter_17 : decode cX5_enter 17 = .ok (.iload_n 2, 1) := by decide +kernel
theorem dX5_enter_18 : decode cX5_enter 18 = .ok (.istore 4, 2) := by decide +kernel
theorem dX5_enter_20 : decode cX5_enter 20 = .ok (.iconst 0, 1) := by decide +kernel
theorem dX5_enter_21 : decode cX5_enter 21 = .ok (.istore 5, 2) := by decide +kernel
theorem dX5_enter_23 : decode cX5_enter 23 = .ok (.iload 5, 2) := by decide +kernel
theorem dX5_enter_25 : decode cX5_enter 25 = .ok (.aload_n 0, 1) := by decide +kernel
theorem dX5_enter_26 : decode cX5_enter 26 = .ok (.getfield 106, 3) := by decide +kernel
theorem dX5_enter_29 : decode cX5_enter 29 = .ok (.arraylength, 1) := by decide +kernel
theorem dX5_enter_30 : decode cX5_enter 30 = .ok (.if_icmp .ge 27, 3) := by decide +kernel
theorem dX5_enter_33 : decode cX5_enter 33 = .ok (.aload_n 0, 1) := by decide +kernel
theorem dX5_enter_34 : decode cX5_enter 34 = .ok (.getfield 106, 3) := by decide +kernel
theorem dX5_enter_37 : decode cX5_enter 37 = .ok (.iload 5, 2) := by decide +kernel
theorem dX5_enter_39 : decode cX5_enter 39 = .ok (.aaload, 1) := by decide +kernel
theorem dX5_enter_40 : decode cX5_enter 40 = .ok (.aload_n 1, 1) := by decide +kernel
theorem dX5_enter_41 : decode cX5_enter 41 = .ok (.iload 4, 2) := by decide +kernel
theorem dX5_enter_43 : decode cX5_enter 43 = .ok (.iload_n 3, 1) := by decide +kernel
theorem dX5_enter_44 : decode cX5_enter 44 = .ok (.iconst 1, 1) := by decide +kernel
theorem dX5_enter_45 : decode cX5_enter 45 = .ok (.iadd, 1) := by decide +kernel
theorem dX5_enter_46 : decode cX5_enter 46 = .ok (.invokestatic 205, 3) := by decide +kernel
theorem dX5_enter_49 : decode cX5_enter 49 = .ok (.istore 4, 2) := by decide +kernel
theorem dX5_enter_51 : decode cX5_enter 51 = .ok (.iinc 5 1, 3) := by decide +kernel
theorem dX5_enter_54 : decode cX5_enter 54 = .ok (.goto (-31), 3) := by decide +kernel
theorem dX5_enter_57 : decode cX5_enter 57 = .ok (.iload 4, 2) := by decide +kernel
theorem dX5_enter_59 : decode cX5_enter 59 = .ok (.ifCond .lt 10, 3) := by decide +kernel
theorem dX5_enter_62 : decode cX5_enter 62 = .ok (.iload 4, 2) := by decide +kernel
theorem dX5_enter_64 : decode cX5_enter 64 = .ok (.aload_n 1, 1) := by decide +kernel
theorem dX5_enter_65 : decode cX5_enter 65 = .ok (.arraylength, 1) := by decide +kernel
theorem dX5_enter_66 : decode cX5_enter 66 = .ok (.if_icmp .lt 5, 3) := by decide +kernel
theorem dX5_enter_69 : decode cX5_enter 69 = .ok (.iload_n 2, 1) := by decide +kernel
theorem dX5_enter_70 : decode cX5_enter 70 = .ok (.ireturn, 1) := by decide +kernel
theorem dX5_enter_71 : decode cX5_enter 71 = .ok (.aload_n 1, 1) := by decide +kernel
theorem dX5_enter_72 : decode cX5_enter 72 = .ok (.iload 4, 2) := by decide +kernel
theorem dX5_enter_74 : decode cX5_enter 74 = .ok (.aload_n 0, 1) := by decide +kernel
theorem dX5_enter_75 : decode cX5_enter 75 = .ok (.aastore, 1) := by decide +kernel
theorem dX5_enter_76 : decode cX5_enter 76 = .ok (.aload_n 0, 1) := by decide +kernel
theorem dX5_enter_77 : decode cX5_enter 77 = .ok (.iload 4, 2) := by decide +kernel
theorem dX5_enter_79 : decode cX5_enter 79 = .ok (.putfield 121, 3) := by decide +kernel
theorem dX5_enter_82 : decode cX5_enter 82 = .ok (.iload 4, 2) := by decide +kernel
theorem dX5_enter_84 : decode cX5_enter 84 = .ok (.iconst 1, 1) := by decide +kernel
theorem dX5_enter_85 : decode cX5_enter 85 = .ok (.iadd, 1) := by decide +kernel
theorem dX5_enter_86 : decode cX5_enter 86 = .ok (.ireturn, 1) := by decide +kernel
theorem dX5_silence_0 : decode cX5_silence 0 = .ok (.new 15, 3) := by decide +kernel
theorem dX5_silence_3 : decode cX5_silence 3 = .ok (.dup, 1) := by decide +kernel
theorem dX5_silence_4 : decode cX5_silence 4 = .ok (.iconst 1, 1) := by decide +kernel
theorem dX5_silence_5 : decode cX5_silence 5 = .ok (.bipush (-3), 2) := by decide +kernel
theorem dX5_silence_7 : decode cX5_silence 7 = .ok (.iconst 0, 1) := by decide +kernel
theorem dX5_silence_8 : decode cX5_silence 8 = .ok (.anewarray 15, 3) := by decide +kernel
theorem dX5_silence_11 : decode cX5_silence 11 = .ok (.invokespecial 112, 3) := by decide +kernel
theorem dX5_silence_14 : decode cX5_silence 14 = .ok (.areturn, 1) := by decide +kernel
theorem dX5_deedOf_0 : decode cX5_deedOf 0 = .ok (.new 15, 3) := by decide +kernel
theorem dX5_deedOf_3 : decode cX5_deedOf 3 = .ok (.dup, 1) := by decide +kernel
theorem dX5_deedOf_4 : decode cX5_deedOf 4 = .ok (.iconst 0, 1) := by decide +kernel
theorem dX5_deedOf_5 : decode cX5_deedOf 5 = .ok (.iload_n 0, 1) := by decide +kernel
theorem dX5_deedOf_6 : decode cX5_deedOf 6 = .ok (.iconst 0, 1) := by decide +kernel
theorem dX5_deedOf_7 : decode cX5_deedOf 7 = .ok (.anewarray 15, 3) := by decide +kernel
theorem dX5_deedOf_10 : decode cX5_deedOf 10 = .ok (.invokespecial 112, 3) := by decide +kernel
theorem dX5_deedOf_13 : decode cX5_deedOf 13 = .ok (.areturn, 1) := by decide +kernel
theorem dX5_two_0 : decode cX5_two 0 = .ok (.new 15, 3) := by decide +kernel
theorem dX5_two_3 : decode cX5_two 3 = .ok (.dup, 1) := by decide +kernel
theorem dX5_two_4 : decode cX5_two 4 = .ok (.iload_n 0, 1) := by decide +kernel
theorem dX5_two_5 : decode cX5_two 5 = .ok (.bipush (-3), 2) := by decide +kernel
theorem dX5_two_7 : decode cX5_two 7 = .ok (.iconst 2, 1) := by decide +kernel
theorem dX5_two_8 : decode cX5_two 8 = .ok (.anewarray 15, 3) := by decide +kernel
theorem dX5_two_11 : decode cX5_two 11 = .ok (.dup, 1) := by decide +kernel
theorem dX5_two_12 : decode cX5_two 12 = .ok (.iconst 0, 1) := by decide +kernel
theorem dX5_two_13 : decode cX5_two 13 = .ok (.aload_n 1, 1) := by decide +kernel
theorem dX5_two_14 : decode cX5_two 14 = .ok (.aastore, 1) := by decide +kernel
theorem dX5_two_15 : decode cX5_two 15 = .ok (.dup, 1) := by decide +kernel
theorem dX5_two_16 : decode cX5_two 16 = .ok (.iconst 1, 1) := by decide +kernel
theorem dX5_two_17 : decode cX5_two 17 = .ok (.aload_n 2, 1) := by decide +kernel
theorem dX5_two_18 : decode cX5_two 18 = .ok (.aastore, 1) := by decide +kernel
theorem dX5_two_19 : decode cX5_two 19 = .ok (.invokespecial 112, 3) := by decide +kernel
theorem dX5_two_22 : decode cX5_two 22 = .ok (.areturn, 1) := by decide +kernel
theorem dX5_order_0 : decode cX5_order 0 = .ok (.aload_n 0, 1) := by decide +kernel
theorem dX5_order_1 : decode cX5_order 1 = .ok (.getfield 109, 3) := by decide +kernel
theorem dX5_order_4 : decode cX5_order 4 = .ok (.aload_n 1, 1) := by decide +kernel
theorem dX5_order_5 : decode cX5_order 5 = .ok (.getfield 109, 3) := by decide +kernel
theorem dX5_order_8 : decode cX5_order 8 = .ok (.if_icmp .eq 15, 3) := by decide +kernel
theorem dX5_order_11 : decode cX5_order 11 = .ok (.aload_n 0, 1) := by decide +kernel
theorem dX5_order_12 : decode cX5_order 12 = .ok (.getfield 109, 3) := by decide +kernel
theorem dX5_order_15 : decode cX5_order 15 = .ok (.aload_n 1, 1) := by decide +kernel
theorem dX5_order_16 : decode cX5_order 16 = .ok (.getfield 109, 3) := by decide +kernel
theorem dX5_order_19 : decode cX5_order 19 = .ok (.invokestatic 209, 3) := by decide +kernel
theorem dX5_order_22 : decode cX5_order 22 = .ok (.ireturn, 1) := by decide +kernel
theorem dX5_order_23 : decode cX5_order 23 = .ok (.aload_n 0, 1) := by decide +kernel
theorem dX5_order_24 : decode cX5_order 24 = .ok (.getfield 115, 3) := by decide +kernel
theorem dX5_order_27 : decode cX5_order 27 = .ok (.aload_n 1, 1) := by decide +kernel
theorem dX5_order_28 : decode cX5_order 28 = .ok (.getfield 115, 3) := by decide +kernel
theorem dX5_order_31 : decode cX5_order 31 = .ok (.if_icmp .eq 15, 3) := by decide +kernel
theorem dX5_order_34 : decode cX5_order 34 = .ok (.aload_n 0, 1) := by decide +kernel
theorem dX5_order_35 : decode cX5_order 35 = .ok (.getfield 115, 3) := by decide +kernel
theorem dX5_order_38 : decode cX5_order 38 = .ok (.aload_n 1, 1) := by decide +kernel
theorem dX5_order_39 : decode cX5_order 39 = .ok (.getfield 115, 3) := by decide +kernel
theorem dX5_order_42 : decode cX5_order 42 = .ok (.invokestatic 209, 3) := by decide +kernel
theorem dX5_order_45 : decode cX5_order 45 = .ok (.ireturn, 1) := by decide +kernel
theorem dX5_order_46 : decode cX5_order 46 = .ok (.aload_n 0, 1) := by decide +kernel
theorem dX5_order_47 : decode cX5_order 47 = .ok (.getfield 106, 3) := by decide +kernel
theorem dX5_order_50 : decode cX5_order 50 = .ok (.arraylength, 1) := by decide +kernel
theorem dX5_order_51 : decode cX5_order 51 = .ok (.aload_n 1, 1) := by decide +kernel
theorem dX5_order_52 : decode cX5_order 52 = .ok (.getfield 106, 3) := by decide +kernel
theorem dX5_order_55 : decode cX5_order 55 = .ok (.arraylength, 1) := by decide +kernel
theorem dX5_order_56 : decode cX5_order 56 = .ok (.if_icmp .eq 17, 3) := by decide +kernel
theorem dX5_order_59 : decode cX5_order 59 = .ok (.aload_n 0, 1) := by decide +kernel
theorem dX5_order_60 : decode cX5_order 60 = .ok (.getfield 106, 3) := by decide +kernel
theorem dX5_order_63 : decode cX5_order 63 = .ok (.arraylength, 1) := by decide +kernel
theorem dX5_order_64 : decode cX5_order 64 = .ok (.aload_n 1, 1) := by decide +kernel
theorem dX5_order_65 : decode cX5_order 65 = .ok (.getfield 106, 3) := by decide +kernel
theorem dX5_order_68 : decode cX5_order 68 = .ok (.arraylength, 1) := by decide +kernel
theorem dX5_order_69 : decode cX5_order 69 = .ok (.invokestatic 209, 3) := by decide +kernel
theorem dX5_order_72 : decode cX5_order 72 = .ok (.ireturn, 1) := by decide +kernel
theorem dX5_order_73 : decode cX5_order 73 = .ok (.iload_n 2, 1) := by decide +kernel
theorem dX5_order_74 : decode cX5_order 74 = .ok (.bipush 40, 2) := by decide +kernel
theorem dX5_order_76 : decode cX5_order 76 = .ok (.if_icmp .le 5, 3) := by decide +kernel
theorem dX5_order_79 : decode cX5_order 79 = .ok (.iconst 0, 1) := by decide +kernel
theorem dX5_order_80 : decode cX5_order 80 = .ok (.ireturn, 1) := by decide +kernel
theorem dX5_order_81 : decode cX5_order 81 = .ok (.iconst 0, 1) := by decide +kernel
theorem dX5_order_82 : decode cX5_order 82 = .ok (.istore_n 3, 1) := by decide +kernel
theorem dX5_order_83 : decode cX5_order 83 = .ok (.iload_n 3, 1) := by decide +kernel
theorem dX5_order_84 : decode cX5_order 84 = .ok (.aload_n 0, 1) := by decide +kernel
theorem dX5_order_85 : decode cX5_order 85 = .ok (.getfield 106, 3) := by decide +kernel
theorem dX5_order_88 : decode cX5_order 88 = .ok (.arraylength, 1) := by decide +kernel
theorem dX5_order_89 : decode cX5_order 89 = .ok (.if_icmp .ge 46, 3) := by decide +kernel
theorem dX5_order_92 : decode cX5_order 92 = .ok (.iload_n 3, 1) := by decide +kernel
theorem dX5_order_93 : decode cX5_order 93 = .ok (.aload_n 1, 1) := by decide +kernel
theorem dX5_order_94 : decode cX5_order 94 = .ok (.getfield 106, 3) := by decide +kernel
theorem dX5_order_97 : decode cX5_order 97 = .ok (.arraylength, 1) := by decide +kernel
theorem dX5_order_98 : decode cX5_order 98 = .ok (.if_icmp .ge 37, 3) := by decide +kernel
theorem dX5_order_101 : decode cX5_order 101 = .ok (.aload_n 0, 1) := by decide +kernel
theorem dX5_order_102 : decode cX5_order 102 = .ok (.getfield 106, 3) := by decide +kernel
theorem dX5_order_105 : decode cX5_order 105 = .ok (.iload_n 3, 1) := by decide +kernel
theorem dX5_order_106 : decode cX5_order 106 = .ok (.aaload, 1) := by decide +kernel
theorem dX5_order_107 : decode cX5_order 107 = .ok (.aload_n 1, 1) := by decide +kernel
theorem dX5_order_108 : decode cX5_order 108 = .ok (.getfield 106, 3) := by decide +kernel
theorem dX5_order_111 : decode cX5_order 111 = .ok (.iload_n 3, 1) := by decide +kernel
theorem dX5_order_112 : decode cX5_order 112 = .ok (.aaload, 1) := by decide +kernel
theorem dX5_order_113 : decode cX5_order 113 = .ok (.iload_n 2, 1) := by decide +kernel
theorem dX5_order_114 : decode cX5_order 114 = .ok (.iconst 1, 1) := by decide +kernel
theorem dX5_order_115 : decode cX5_order 115 = .ok (.iadd, 1) := by decide +kernel
theorem dX5_order_116 : decode cX5_order 116 = .ok (.invokestatic 128, 3) := by decide +kernel
theorem dX5_order_119 : decode cX5_order 119 = .ok (.istore 4, 2) := by decide +kernel
theorem dX5_order_121 : decode cX5_order 121 = .ok (.iload 4, 2) := by decide +kernel
theorem dX5_order_123 : decode cX5_order 123 = .ok (.ifCond .eq 6, 3) := by decide +kernel
theorem dX5_order_126 : decode cX5_order 126 = .ok (.iload 4, 2) := by decide +kernel
theorem dX5_order_128 : decode cX5_order 128 = .ok (.ireturn, 1) := by decide +kernel
theorem dX5_order_129 : decode cX5_order 129 = .ok (.iinc 3 1, 3) := by decide +kernel
theorem dX5_order_132 : decode cX5_order 132 = .ok (.goto (-49), 3) := by decide +kernel
theorem dX5_order_135 : decode cX5_order 135 = .ok (.iconst 0, 1) := by decide +kernel
theorem dX5_order_136 : decode cX5_order 136 = .ok (.ireturn, 1) := by decide +kernel
theorem dX5_plainOf_0 : decode cX5_plainOf 0 = .ok (.aload_n 0, 1) := by decide +kernel
theorem dX5_plainOf_1 : decode cX5_plainOf 1 = .ok (.getfield 109, 3) := by decide +kernel
theorem dX5_plainOf_4 : decode cX5_plainOf 4 = .ok (.ifCond .ne 11, 3) := by decide +kernel
theorem dX5_plainOf_7 : decode cX5_plainOf 7 = .ok (.aload_n 0, 1) := by decide +kernel
theorem dX5_plainOf_8 : decode cX5_plainOf 8 = .ok (.getfield 115, 3) := by decide +kernel
theorem dX5_plainOf_11 : decode cX5_plainOf 11 = .ok (.invokestatic 91, 3) := by decide +kernel
theorem dX5_plainOf_14 : decode cX5_plainOf 14 = .ok (.areturn, 1) := by decide +kernel
theorem dX5_plainOf_15 : decode cX5_plainOf 15 = .ok (.aload_n 0, 1) := by decide +kernel
theorem dX5_plainOf_16 : decode cX5_plainOf 16 = .ok (.getfield 109, 3) := by decide +kernel
theorem dX5_plainOf_19 : decode cX5_plainOf 19 = .ok (.iconst 1, 1) := by decide +kernel
theorem dX5_plainOf_20 : decode cX5_plainOf 20 = .ok (.if_icmp .eq 9, 3) := by decide +kernel
theorem dX5_plainOf_23 : decode cX5_plainOf 23 = .ok (.iload_n 1, 1) := by decide +kernel
theorem dX5_plainOf_24 : decode cX5_plainOf 24 = .ok (.bipush 40, 2) := by decide +kernel
theorem dX5_plainOf_26 : decode cX5_plainOf 26 = .ok (.if_icmp .le 7, 3) := by decide +kernel
theorem dX5_plainOf_29 : decode cX5_plainOf 29 = .ok (.invokestatic 87, 3) := by decide +kernel
theorem dX5_plainOf_32 : decode cX5_plainOf 32 = .ok (.areturn, 1) := by decide +kernel
theorem dX5_plainOf_33 : decode cX5_plainOf 33 = .ok (.new 214, 3) := by decide +kernel
theorem dX5_plainOf_36 : decode cX5_plainOf 36 = .ok (.dup, 1) := by decide +kernel
theorem dX5_plainOf_37 : decode cX5_plainOf 37 = .ok (.invokespecial 216, 3) := by decide +kernel
theorem dX5_plainOf_40 : decode cX5_plainOf 40 = .ok (.astore_n 2, 1) := by decide +kernel
theorem dX5_plainOf_41 : decode cX5_plainOf 41 = .ok (.iconst 0, 1) := by decide +kernel
theorem dX5_plainOf_42 : decode cX5_plainOf 42 = .ok (.istore_n 3, 1) := by decide +kernel
theorem dX5_plainOf_43 : decode cX5_plainOf 43 = .ok (.iload_n 3, 1) := by decide +kernel
theorem dX5_plainOf_44 : decode cX5_plainOf 44 = .ok (.aload_n 0, 1) := by decide +kernel
theorem dX5_plainOf_45 : decode cX5_plainOf 45 = .ok (.getfield 106, 3) := by decide +kernel
theorem dX5_plainOf_48 : decode cX5_plainOf 48 = .ok (.arraylength, 1) := by decide +kernel
theorem dX5_plainOf_49 : decode cX5_plainOf 49 = .ok (.if_icmp .ge 29, 3) := by decide +kernel
theorem dX5_plainOf_52 : decode cX5_plainOf 52 = .ok (.aload_n 2, 1) := by decide +kernel
theorem dX5_plainOf_53 : decode cX5_plainOf 53 = .ok (.aload_n 0, 1) := by decide +kernel
theorem dX5_plainOf_54 : decode cX5_plainOf 54 = .ok (.getfield 109, 3) := by decide +kernel
theorem dX5_plainOf_57 : decode cX5_plainOf 57 = .ok (.aload_n 0, 1) := by decide +kernel
theorem dX5_plainOf_58 : decode cX5_plainOf 58 = .ok (.getfield 106, 3) := by decide +kernel
theorem dX5_plainOf_61 : decode cX5_plainOf 61 = .ok (.iload_n 3, 1) := by decide +kernel
theorem dX5_plainOf_62 : decode cX5_plainOf 62 = .ok (.aaload, 1) := by decide +kernel
theorem dX5_plainOf_63 : decode cX5_plainOf 63 = .ok (.iload_n 1, 1) := by decide +kernel
theorem dX5_plainOf_64 : decode cX5_plainOf 64 = .ok (.iconst 1, 1) := by decide +kernel
theorem dX5_plainOf_65 : decode cX5_plainOf 65 = .ok (.iadd, 1) := by decide +kernel
theorem dX5_plainOf_66 : decode cX5_plainOf 66 = .ok (.invokestatic 124, 3) := by decide +kernel
theorem dX5_plainOf_69 : decode cX5_plainOf 69 = .ok (.invokestatic 217, 3) := by decide +kernel
theorem dX5_plainOf_72 : decode cX5_plainOf 72 = .ok (.iinc 3 1, 3) := by decide +kernel
theorem dX5_plainOf_75 : decode cX5_plainOf 75 = .ok (.goto (-32), 3) := by decide +kernel
theorem dX5_plainOf_78 : decode cX5_plainOf 78 = .ok (.aload_n 2, 1) := by decide +kernel
theorem dX5_plainOf_79 : decode cX5_plainOf 79 = .ok (.invokevirtual 221, 3) := by decide +kernel
theorem dX5_plainOf_82 : decode cX5_plainOf 82 = .ok (.ifCond .ne 7, 3) := by decide +kernel
theorem dX5_plainOf_85 : decode cX5_plainOf 85 = .ok (.invokestatic 87, 3) := by decide +kernel
theorem dX5_plainOf_88 : decode cX5_plainOf 88 = .ok (.areturn, 1) := by decide +kernel
theorem dX5_plainOf_89 : decode cX5_plainOf 89 = .ok (.aload_n 2, 1) := by decide +kernel
theorem dX5_plainOf_90 : decode cX5_plainOf 90 = .ok (.invokevirtual 221, 3) := by decide +kernel
theorem dX5_plainOf_93 : decode cX5_plainOf 93 = .ok (.iconst 1, 1) := by decide +kernel
theorem dX5_plainOf_94 : decode cX5_plainOf 94 = .ok (.if_icmp .ne 12, 3) := by decide +kernel
theorem dX5_plainOf_97 : decode cX5_plainOf 97 = .ok (.aload_n 2, 1) := by decide +kernel
theorem dX5_plainOf_98 : decode cX5_plainOf 98 = .ok (.iconst 0, 1) := by decide +kernel
theorem dX5_plainOf_99 : decode cX5_plainOf 99 = .ok (.invokevirtual 223, 3) := by decide +kernel
theorem dX5_plainOf_102 : decode cX5_plainOf 102 = .ok (.checkcast 15, 3) := by decide +kernel
theorem dX5_plainOf_105 : decode cX5_plainOf 105 = .ok (.areturn, 1) := by decide +kernel
theorem dX5_plainOf_106 : decode cX5_plainOf 106 = .ok (.aload_n 2, 1) := by decide +kernel
theorem dX5_plainOf_107 : decode cX5_plainOf 107 = .ok (.invokevirtual 221, 3) := by decide +kernel
theorem dX5_plainOf_110 : decode cX5_plainOf 110 = .ok (.anewarray 15, 3) := by decide +kernel
theorem dX5_plainOf_113 : decode cX5_plainOf 113 = .ok (.astore_n 3, 1) := by decide +kernel
theorem dX5_plainOf_114 : decode cX5_plainOf 114 = .ok (.iconst 0, 1) := by decide +kernel
theorem dX5_plainOf_115 : decode cX5_plainOf 115 = .ok (.istore 4, 2) := by decide +kernel
theorem dX5_plainOf_117 : decode cX5_plainOf 117 = .ok (.iload 4, 2) := by decide +kernel
theorem dX5_plainOf_119 : decode cX5_plainOf 119 = .ok (.aload_n 3, 1) := by decide +kernel
theorem dX5_plainOf_120 : decode cX5_plainOf 120 = .ok (.arraylength, 1) := by decide +kernel
theorem dX5_plainOf_121 : decode cX5_plainOf 121 = .ok (.if_icmp .ge 22, 3) := by decide +kernel
theorem dX5_plainOf_124 : decode cX5_plainOf 124 = .ok (.aload_n 3, 1) := by decide +kernel
theorem dX5_plainOf_125 : decode cX5_plainOf 125 = .ok (.iload 4, 2) := by decide +kernel
theorem dX5_plainOf_127 : decode cX5_plainOf 127 = .ok (.aload_n 2, 1) := by decide +kernel
theorem dX5_plainOf_128 : decode cX5_plainOf 128 = .ok (.iload 4, 2) := by decide +kernel
theorem dX5_plainOf_130 : decode cX5_plainOf 130 = .ok (.invokevirtual 223, 3) := by decide +kernel
theorem dX5_plainOf_133 : decode cX5_plainOf 133 = .ok (.checkcast 15, 3) := by decide +kernel
theorem dX5_plainOf_136 : decode cX5_plainOf 136 = .ok (.aastore, 1) := by decide +kernel
theorem dX5_plainOf_137 : decode cX5_plainOf 137 = .ok (.iinc 4 1, 3) := by decide +kernel
theorem dX5_plainOf_140 : decode cX5_plainOf 140 = .ok (.goto (-23), 3) := by decide +kernel
theorem dX5_plainOf_143 : decode cX5_plainOf 143 = .ok (.new 15, 3) := by decide +kernel
theorem dX5_plainOf_146 : decode cX5_plainOf 146 = .ok (.dup, 1) := by decide +kernel
theorem dX5_plainOf_147 : decode cX5_plainOf 147 = .ok (.aload_n 0, 1) := by decide +kernel
theorem dX5_plainOf_148 : decode cX5_plainOf 148 = .ok (.getfield 109, 3) := by decide +kernel
theorem dX5_plainOf_151 : decode cX5_plainOf 151 = .ok (.bipush (-3), 2) := by decide +kernel
theorem dX5_plainOf_153 : decode cX5_plainOf 153 = .ok (.aload_n 3, 1) := by decide +kernel
theorem dX5_plainOf_154 : decode cX5_plainOf 154 = .ok (.invokespecial 112, 3) := by decide +kernel
theorem dX5_plainOf_157 : decode cX5_plainOf 157 = .ok (.areturn, 1) := by decide +kernel
theorem dX5_takeIn_0 : decode cX5_takeIn 0 = .ok (.aload_n 2, 1) := by decide +kernel
theorem dX5_takeIn_1 : decode cX5_takeIn 1 = .ok (.getfield 109, 3) := by decide +kernel
theorem dX5_takeIn_4 : decode cX5_takeIn 4 = .ok (.iconst 1, 1) := by decide +kernel
theorem dX5_takeIn_5 : decode cX5_takeIn 5 = .ok (.if_icmp .ne 14, 3) := by decide +kernel
theorem dX5_takeIn_8 : decode cX5_takeIn 8 = .ok (.iload_n 1, 1) := by decide +kernel
theorem dX5_takeIn_9 : decode cX5_takeIn 9 = .ok (.iconst 2, 1) := by decide +kernel
theorem dX5_takeIn_10 : decode cX5_takeIn 10 = .ok (.if_icmp .eq 8, 3) := by decide +kernel
theorem dX5_takeIn_13 : decode cX5_takeIn 13 = .ok (.iload_n 1, 1) := by decide +kernel
theorem dX5_takeIn_14 : decode cX5_takeIn 14 = .ok (.iconst 4, 1) := by decide +kernel
theorem dX5_takeIn_15 : decode cX5_takeIn 15 = .ok (.if_icmp .ne 4, 3) := by decide +kernel
theorem dX5_takeIn_18 : decode cX5_takeIn 18 = .ok (.return_, 1) := by decide +kernel
theorem dX5_takeIn_19 : decode cX5_takeIn 19 = .ok (.aload_n 2, 1) := by decide +kernel
theorem dX5_takeIn_20 : decode cX5_takeIn 20 = .ok (.getfield 109, 3) := by decide +kernel
theorem dX5_takeIn_23 : decode cX5_takeIn 23 = .ok (.iload_n 1, 1) := by decide +kernel
theorem dX5_takeIn_24 : decode cX5_takeIn 24 = .ok (.if_icmp .ne 8, 3) := by decide +kernel
theorem dX5_takeIn_27 : decode cX5_takeIn 27 = .ok (.iload_n 1, 1) := by decide +kernel
theorem dX5_takeIn_28 : decode cX5_takeIn 28 = .ok (.iconst 5, 1) := by decide +kernel
theorem dX5_takeIn_29 : decode cX5_takeIn 29 = .ok (.if_icmp .ne 10, 3) := by decide +kernel
theorem dX5_takeIn_32 : decode cX5_takeIn 32 = .ok (.aload_n 0, 1) := by decide +kernel
theorem dX5_takeIn_33 : decode cX5_takeIn 33 = .ok (.iload_n 1, 1) := by decide +kernel
theorem dX5_takeIn_34 : decode cX5_takeIn 34 = .ok (.aload_n 2, 1) := by decide +kernel
theorem dX5_takeIn_35 : decode cX5_takeIn 35 = .ok (.invokestatic 227, 3) := by decide +kernel
theorem dX5_takeIn_38 : decode cX5_takeIn 38 = .ok (.return_, 1) := by decide +kernel
theorem dX5_takeIn_39 : decode cX5_takeIn 39 = .ok (.iconst 0, 1) := by decide +kernel
theorem dX5_takeIn_40 : decode cX5_takeIn 40 = .ok (.istore_n 3, 1) := by decide +kernel
theorem dX5_takeIn_41 : decode cX5_takeIn 41 = .ok (.iload_n 3, 1) := by decide +kernel
theorem dX5_takeIn_42 : decode cX5_takeIn 42 = .ok (.aload_n 2, 1) := by decide +kernel
theorem dX5_takeIn_43 : decode cX5_takeIn 43 = .ok (.getfield 106, 3) := by decide +kernel
theorem dX5_takeIn_46 : decode cX5_takeIn 46 = .ok (.arraylength, 1) := by decide +kernel
theorem dX5_takeIn_47 : decode cX5_takeIn 47 = .ok (.if_icmp .ge 20, 3) := by decide +kernel
theorem dX5_takeIn_50 : decode cX5_takeIn 50 = .ok (.aload_n 0, 1) := by decide +kernel
theorem dX5_takeIn_51 : decode cX5_takeIn 51 = .ok (.iload_n 1, 1) := by decide +kernel
theorem dX5_takeIn_52 : decode cX5_takeIn 52 = .ok (.aload_n 2, 1) := by decide +kernel
theorem dX5_takeIn_53 : decode cX5_takeIn 53 = .ok (.getfield 106, 3) := by decide +kernel
theorem dX5_takeIn_56 : decode cX5_takeIn 56 = .ok (.iload_n 3, 1) := by decide +kernel
theorem dX5_takeIn_57 : decode cX5_takeIn 57 = .ok (.aaload, 1) := by decide +kernel
theorem dX5_takeIn_58 : decode cX5_takeIn 58 = .ok (.invokestatic 227, 3) := by decide +kernel
theorem dX5_takeIn_61 : decode cX5_takeIn 61 = .ok (.iinc 3 1, 3) := by decide +kernel
theorem dX5_takeIn_64 : decode cX5_takeIn 64 = .ok (.goto (-23), 3) := by decide +kernel
theorem dX5_takeIn_67 : decode cX5_takeIn 67 = .ok (.return_, 1) := by decide +kernel
theorem dX5_place_0 : decode cX5_place 0 = .ok (.iload_n 1, 1) := by decide +kernel
theorem dX5_place_1 : decode cX5_place 1 = .ok (.iconst 2, 1) := by decide +kernel
theorem dX5_place_2 : decode cX5_place 2 = .ok (.if_icmp .ne 10, 3) := by decide +kernel
theorem dX5_place_5 : decode cX5_place 5 = .ok (.aload_n 0, 1) := by decide +kernel
theorem dX5_place_6 : decode cX5_place 6 = .ok (.invokevirtual 221, 3) := by decide +kernel
theorem dX5_place_9 : decode cX5_place 9 = .ok (.goto 20, 3) := by decide +kernel
theorem dX5_place_12 : decode cX5_place 12 = .ok (.iload_n 1, 1) := by decide +kernel
theorem dX5_place_13 : decode cX5_place 13 = .ok (.iconst 5, 1) := by decide +kernel
theorem dX5_place_14 : decode cX5_place 14 = .ok (.if_icmp .ne 14, 3) := by decide +kernel
theorem dX5_place_17 : decode cX5_place 17 = .ok (.iconst 1, 1) := by decide +kernel
theorem dX5_place_18 : decode cX5_place 18 = .ok (.aload_n 0, 1) := by decide +kernel
theorem dX5_place_19 : decode cX5_place 19 = .ok (.invokevirtual 221, 3) := by decide +kernel
theorem dX5_place_22 : decode cX5_place 22 = .ok (.invokestatic 230, 3) := by decide +kernel
theorem dX5_place_25 : decode cX5_place 25 = .ok (.goto 4, 3) := by decide +kernel
theorem dX5_place_28 : decode cX5_place 28 = .ok (.iconst 0, 1) := by decide +kernel
theorem dX5_place_29 : decode cX5_place 29 = .ok (.istore_n 3, 1) := by decide +kernel
theorem dX5_place_30 : decode cX5_place 30 = .ok (.iload_n 3, 1) := by decide +kernel
theorem dX5_place_31 : decode cX5_place 31 = .ok (.aload_n 0, 1) := by decide +kernel
theorem dX5_place_32 : decode cX5_place 32 = .ok (.invokevirtual 221, 3) := by decide +kernel
theorem dX5_place_35 : decode cX5_place 35 = .ok (.if_icmp .ge 25, 3) := by decide +kernel
theorem dX5_place_38 : decode cX5_place 38 = .ok (.aload_n 0, 1) := by decide +kernel
theorem dX5_place_39 : decode cX5_place 39 = .ok (.iload_n 3, 1) := by decide +kernel
theorem dX5_place_40 : decode cX5_place 40 = .ok (.invokevirtual 223, 3) := by decide +kernel
theorem dX5_place_43 : decode cX5_place 43 = .ok (.checkcast 15, 3) := by decide +kernel
theorem dX5_place_46 : decode cX5_place 46 = .ok (.aload_n 2, 1) := by decide +kernel
theorem dX5_place_47 : decode cX5_place 47 = .ok (.iconst 0, 1) := by decide +kernel
theorem dX5_place_48 : decode cX5_place 48 = .ok (.invokestatic 128, 3) := by decide +kernel
theorem dX5_place_51 : decode cX5_place 51 = .ok (.ifCond .ge 9, 3) := by decide +kernel
theorem dX5_place_54 : decode cX5_place 54 = .ok (.iinc 3 1, 3) := by decide +kernel
theorem dX5_place_57 : decode cX5_place 57 = .ok (.goto (-27), 3) := by decide +kernel
theorem dX5_place_60 : decode cX5_place 60 = .ok (.iload_n 1, 1) := by decide +kernel
theorem dX5_place_61 : decode cX5_place 61 = .ok (.iconst 3, 1) := by decide +kernel
theorem dX5_place_62 : decode cX5_place 62 = .ok (.if_icmp .ne 31, 3) := by decide +kernel
theorem dX5_place_65 : decode cX5_place 65 = .ok (.iload_n 3, 1) := by decide +kernel
theorem dX5_place_66 : decode cX5_place 66 = .ok (.aload_n 0, 1) := by decide +kernel
theorem dX5_place_67 : decode cX5_place 67 = .ok (.invokevirtual 221, 3) := by decide +kernel
theorem dX5_place_70 : decode cX5_place 70 = .ok (.if_icmp .ge 23, 3) := by decide +kernel
theorem dX5_place_73 : decode cX5_place 73 = .ok (.aload_n 0, 1) := by decide +kernel
theorem dX5_place_74 : decode cX5_place 74 = .ok (.iload_n 3, 1) := by decide +kernel
theorem dX5_place_75 : decode cX5_place 75 = .ok (.invokevirtual 223, 3) := by decide +kernel
theorem dX5_place_78 : decode cX5_place 78 = .ok (.checkcast 15, 3) := by decide +kernel
theorem dX5_place_81 : decode cX5_place 81 = .ok (.aload_n 2, 1) := by decide +kernel
theorem dX5_place_82 : decode cX5_place 82 = .ok (.iconst 0, 1) := by decide +kernel
theorem dX5_place_83 : decode cX5_place 83 = .ok (.invokestatic 128, 3) := by decide +kernel
theorem dX5_place_86 : decode cX5_place 86 = .ok (.ifCond .ne 7, 3) := by decide +kernel
theorem dX5_place_89 : decode cX5_place 89 = .ok (.iconst 1, 1) := by decide +kernel
theorem dX5_place_90 : decode cX5_place 90 = .ok (.goto 4, 3) := by decide +kernel
theorem dX5_place_93 : decode cX5_place 93 = .ok (.iconst 0, 1) := by decide +kernel
theorem dX5_place_94 : decode cX5_place 94 = .ok (.istore 4, 2) := by decide +kernel
theorem dX5_place_96 : decode cX5_place 96 = .ok (.iload 4, 2) := by decide +kernel
theorem dX5_place_98 : decode cX5_place 98 = .ok (.ifCond .ne 9, 3) := by decide +kernel
theorem dX5_place_101 : decode cX5_place 101 = .ok (.aload_n 0, 1) := by decide +kernel
theorem dX5_place_102 : decode cX5_place 102 = .ok (.iload_n 3, 1) := by decide +kernel
theorem dX5_place_103 : decode cX5_place 103 = .ok (.aload_n 2, 1) := by decide +kernel
theorem dX5_place_104 : decode cX5_place 104 = .ok (.invokevirtual 235, 3) := by decide +kernel
theorem dX5_place_107 : decode cX5_place 107 = .ok (.return_, 1) := by decide +kernel
theorem dX5_found_0 : decode cX5_found 0 = .ok (.iload_n 1, 1) := by decide +kernel
theorem dX5_found_1 : decode cX5_found 1 = .ok (.ifCond .lt 9, 3) := by decide +kernel
theorem dX5_found_4 : decode cX5_found 4 = .ok (.iload_n 1, 1) := by decide +kernel
theorem dX5_found_5 : decode cX5_found 5 = .ok (.aload_n 0, 1) := by decide +kernel
theorem dX5_found_6 : decode cX5_found 6 = .ok (.arraylength, 1) := by decide +kernel
theorem dX5_found_7 : decode cX5_found 7 = .ok (.if_icmp .lt 7, 3) := by decide +kernel
theorem dX5_found_10 : decode cX5_found 10 = .ok (.invokestatic 87, 3) := by decide +kernel
theorem dX5_found_13 : decode cX5_found 13 = .ok (.areturn, 1) := by decide +kernel
theorem dX5_found_14 : decode cX5_found 14 = .ok (.aload_n 0, 1) := by decide +kernel
theorem dX5_found_15 : decode cX5_found 15 = .ok (.iload_n 1, 1) := by decide +kernel
theorem dX5_found_16 : decode cX5_found 16 = .ok (.aaload, 1) := by decide +kernel
theorem dX5_found_17 : decode cX5_found 17 = .ok (.astore_n 2, 1) := by decide +kernel
theorem dX5_found_18 : decode cX5_found 18 = .ok (.aload_n 2, 1) := by decide +kernel
theorem dX5_found_19 : decode cX5_found 19 = .ok (.getfield 132, 3) := by decide +kernel
theorem dX5_found_22 : decode cX5_found 22 = .ok (.istore_n 3, 1) := by decide +kernel
theorem dX5_found_23 : decode cX5_found 23 = .ok (.aload_n 2, 1) := by decide +kernel
theorem dX5_found_24 : decode cX5_found 24 = .ok (.invokevirtual 239, 3) := by decide +kernel
theorem dX5_found_27 : decode cX5_found 27 = .ok (.aload_n 2, 1) := by decide +kernel
theorem dX5_found_28 : decode cX5_found 28 = .ok (.getfield 132, 3) := by decide +kernel
theorem dX5_found_31 : decode cX5_found 31 = .ok (.ifCond .ne 7, 3) := by decide +kernel
theorem dX5_found_34 : decode cX5_found 34 = .ok (.invokestatic 87, 3) := by decide +kernel
theorem dX5_found_37 : decode cX5_found 37 = .ok (.areturn, 1) := by decide +kernel
theorem dX5_found_38 : decode cX5_found 38 = .ok (.aload_n 0, 1) := by decide +kernel
theorem dX5_found_39 : decode cX5_found 39 = .ok (.iload_n 1, 1) := by decide +kernel
theorem dX5_found_40 : decode cX5_found 40 = .ok (.invokestatic 242, 3) := by decide +kernel
theorem dX5_found_43 : decode cX5_found 43 = .ok (.astore 4, 2) := by decide +kernel
theorem dX5_found_45 : decode cX5_found 45 = .ok (.aload_n 2, 1) := by decide +kernel
theorem dX5_found_46 : decode cX5_found 46 = .ok (.getfield 132, 3) := by decide +kernel
theorem dX5_found_49 : decode cX5_found 49 = .ok (.iload_n 3, 1) := by decide +kernel
theorem dX5_found_50 : decode cX5_found 50 = .ok (.if_icmp .ge 15, 3) := by decide +kernel
theorem dX5_found_53 : decode cX5_found 53 = .ok (.iconst 3, 1) := by decide +kernel
theorem dX5_found_54 : decode cX5_found 54 = .ok (.invokestatic 87, 3) := by decide +kernel
theorem dX5_found_57 : decode cX5_found 57 = .ok (.aload 4, 2) := by decide +kernel
theorem dX5_found_59 : decode cX5_found 59 = .ok (.invokestatic 102, 3) := by decide +kernel
theorem dX5_found_62 : decode cX5_found 62 = .ok (.goto 5, 3) := by decide +kernel
theorem dX5_found_65 : decode cX5_found 65 = .ok (.aload 4, 2) := by decide +kernel
theorem dX5_found_67 : decode cX5_found 67 = .ok (.areturn, 1) := by decide +kernel
theorem dX5_foundOfFull_0 : decode cX5_foundOfFull 0 = .ok (.iload_n 1, 1) := by decide +kernel
theorem dX5_foundOfFull_1 : decode cX5_foundOfFull 1 = .ok (.ifCond .lt 9, 3) := by decide +kernel
theorem dX5_foundOfFull_4 : decode cX5_foundOfFull 4 = .ok (.iload_n 1, 1) := by decide +kernel
theorem dX5_foundOfFull_5 : decode cX5_foundOfFull 5 = .ok (.aload_n 0, 1) := by decide +kernel
theorem dX5_foundOfFull_6 : decode cX5_foundOfFull 6 = .ok (.arraylength, 1) := by decide +kernel
theorem dX5_foundOfFull_7 : decode cX5_foundOfFull 7 = .ok (.if_icmp .lt 7, 3) := by decide +kernel
theorem dX5_foundOfFull_10 : decode cX5_foundOfFull 10 = .ok (.invokestatic 87, 3) := by decide +kernel
theorem dX5_foundOfFull_13 : decode cX5_foundOfFull 13 = .ok (.areturn, 1) := by decide +kernel
theorem dX5_foundOfFull_14 : decode cX5_foundOfFull 14 = .ok (.aload_n 0, 1) := by decide +kernel
theorem dX5_foundOfFull_15 : decode cX5_foundOfFull 15 = .ok (.iload_n 1, 1) := by decide +kernel
theorem dX5_foundOfFull_16 : decode cX5_foundOfFull 16 = .ok (.aaload, 1) := by decide +kernel
theorem dX5_foundOfFull_17 : decode cX5_foundOfFull 17 = .ok (.astore_n 2, 1) := by decide +kernel
theorem dX5_foundOfFull_18 : decode cX5_foundOfFull 18 = .ok (.aload_n 2, 1) := by decide +kernel
theorem dX5_foundOfFull_19 : decode cX5_foundOfFull 19 = .ok (.invokevirtual 245, 3) := by decide +kernel
theorem dX5_foundOfFull_22 : decode cX5_foundOfFull 22 = .ok (.aload_n 2, 1) := by decide +kernel
theorem dX5_foundOfFull_23 : decode cX5_foundOfFull 23 = .ok (.getfield 248, 3) := by decide +kernel
theorem dX5_foundOfFull_26 : decode cX5_foundOfFull 26 = .ok (.invokestatic 251, 3) := by decide +kernel
theorem dX5_foundOfFull_29 : decode cX5_foundOfFull 29 = .ok (.iconst 1, 1) := by decide +kernel
theorem dX5_foundOfFull_30 : decode cX5_foundOfFull 30 = .ok (.if_icmp .ne 8, 3) := by decide +kernel
theorem dX5_foundOfFull_33 : decode cX5_foundOfFull 33 = .ok (.aload_n 2, 1) := by decide +kernel
theorem dX5_foundOfFull_34 : decode cX5_foundOfFull 34 = .ok (.invokestatic 254, 3) := by decide +kernel
theorem dX5_foundOfFull_37 : decode cX5_foundOfFull 37 = .ok (.areturn, 1) := by decide +kernel
theorem dX5_foundOfFull_38 : decode cX5_foundOfFull 38 = .ok (.aload_n 2, 1) := by decide +kernel
theorem dX5_foundOfFull_39 : decode cX5_foundOfFull 39 = .ok (.invokevirtual 258, 3) := by decide +kernel
theorem dX5_foundOfFull_42 : decode cX5_foundOfFull 42 = .ok (.istore_n 3, 1) := by decide +kernel
theorem dX5_foundOfFull_43 : decode cX5_foundOfFull 43 = .ok (.iload_n 3, 1) := by decide +kernel
theorem dX5_foundOfFull_44 : decode cX5_foundOfFull 44 = .ok (.bipush (-3), 2) := by decide +kernel
theorem dX5_foundOfFull_46 : decode cX5_foundOfFull 46 = .ok (.if_icmp .eq 11, 3) := by decide +kernel
theorem dX5_foundOfFull_49 : decode cX5_foundOfFull 49 = .ok (.iload_n 1, 1) := by decide +kernel
theorem dX5_foundOfFull_50 : decode cX5_foundOfFull 50 = .ok (.iconst 1, 1) := by decide +kernel
theorem dX5_foundOfFull_51 : decode cX5_foundOfFull 51 = .ok (.iadd, 1) := by decide +kernel
theorem dX5_foundOfFull_52 : decode cX5_foundOfFull 52 = .ok (.aload_n 0, 1) := by decide +kernel
theorem dX5_foundOfFull_53 : decode cX5_foundOfFull 53 = .ok (.arraylength, 1) := by decide +kernel
theorem dX5_foundOfFull_54 : decode cX5_foundOfFull 54 = .ok (.if_icmp .lt 11, 3) := by decide +kernel
theorem dX5_foundOfFull_57 : decode cX5_foundOfFull 57 = .ok (.aload_n 2, 1) := by decide +kernel
theorem dX5_foundOfFull_58 : decode cX5_foundOfFull 58 = .ok (.getfield 248, 3) := by decide +kernel
theorem dX5_foundOfFull_61 : decode cX5_foundOfFull 61 = .ok (.invokestatic 261, 3) := by decide +kernel
theorem dX5_foundOfFull_64 : decode cX5_foundOfFull 64 = .ok (.areturn, 1) := by decide +kernel
theorem dX5_foundOfFull_65 : decode cX5_foundOfFull 65 = .ok (.aload_n 2, 1) := by decide +kernel
theorem dX5_foundOfFull_66 : decode cX5_foundOfFull 66 = .ok (.getfield 264, 3) := by decide +kernel
theorem dX5_foundOfFull_69 : decode cX5_foundOfFull 69 = .ok (.anewarray 15, 3) := by decide +kernel
theorem dX5_foundOfFull_72 : decode cX5_foundOfFull 72 = .ok (.astore 4, 2) := by decide +kernel
theorem dX5_foundOfFull_74 : decode cX5_foundOfFull 74 = .ok (.iconst 0, 1) := by decide +kernel
theorem dX5_foundOfFull_75 : decode cX5_foundOfFull 75 = .ok (.istore 5, 2) := by decide +kernel
theorem dX5_foundOfFull_77 : decode cX5_foundOfFull 77 = .ok (.iload 5, 2) := by decide +kernel
theorem dX5_foundOfFull_79 : decode cX5_foundOfFull 79 = .ok (.aload 4, 2) := by decide +kernel
theorem dX5_foundOfFull_81 : decode cX5_foundOfFull 81 = .ok (.arraylength, 1) := by decide +kernel
theorem dX5_foundOfFull_82 : decode cX5_foundOfFull 82 = .ok (.if_icmp .ge 38, 3) := by decide +kernel
theorem dX5_foundOfFull_85 : decode cX5_foundOfFull 85 = .ok (.aload_n 0, 1) := by decide +kernel
theorem dX5_foundOfFull_86 : decode cX5_foundOfFull 86 = .ok (.iload_n 1, 1) := by decide +kernel
theorem dX5_foundOfFull_87 : decode cX5_foundOfFull 87 = .ok (.iconst 1, 1) := by decide +kernel
theorem dX5_foundOfFull_88 : decode cX5_foundOfFull 88 = .ok (.iadd, 1) := by decide +kernel
theorem dX5_foundOfFull_89 : decode cX5_foundOfFull 89 = .ok (.aaload, 1) := by decide +kernel
theorem dX5_foundOfFull_90 : decode cX5_foundOfFull 90 = .ok (.aload_n 2, 1) := by decide +kernel
theorem dX5_foundOfFull_91 : decode cX5_foundOfFull 91 = .ok (.aload_n 2, 1) := by decide +kernel
theorem dX5_foundOfFull_92 : decode cX5_foundOfFull 92 = .ok (.getfield 267, 3) := by decide +kernel
theorem dX5_foundOfFull_95 : decode cX5_foundOfFull 95 = .ok (.iload 5, 2) := by decide +kernel
theorem dX5_foundOfFull_97 : decode cX5_foundOfFull 97 = .ok (.iaload, 1) := by decide +kernel
theorem dX5_foundOfFull_98 : decode cX5_foundOfFull 98 = .ok (.iload_n 3, 1) := by decide +kernel
theorem dX5_foundOfFull_99 : decode cX5_foundOfFull 99 = .ok (.invokevirtual 269, 3) := by decide +kernel
theorem dX5_foundOfFull_102 : decode cX5_foundOfFull 102 = .ok (.aload 4, 2) := by decide +kernel
theorem dX5_foundOfFull_104 : decode cX5_foundOfFull 104 = .ok (.iload 5, 2) := by decide +kernel
theorem dX5_foundOfFull_106 : decode cX5_foundOfFull 106 = .ok (.aload_n 0, 1) := by decide +kernel
theorem dX5_foundOfFull_107 : decode cX5_foundOfFull 107 = .ok (.iload_n 1, 1) := by decide +kernel
theorem dX5_foundOfFull_108 : decode cX5_foundOfFull 108 = .ok (.iconst 1, 1) := by decide +kernel
theorem dX5_foundOfFull_109 : decode cX5_foundOfFull 109 = .ok (.iadd, 1) := by decide +kernel
theorem dX5_foundOfFull_110 : decode cX5_foundOfFull 110 = .ok (.invokestatic 142, 3) := by decide +kernel
theorem dX5_foundOfFull_113 : decode cX5_foundOfFull 113 = .ok (.aastore, 1) := by decide +kernel
theorem dX5_foundOfFull_114 : decode cX5_foundOfFull 114 = .ok (.iinc 5 1, 3) := by decide +kernel
theorem dX5_foundOfFull_117 : decode cX5_foundOfFull 117 = .ok (.goto (-40), 3) := by decide +kernel
theorem dX5_foundOfFull_120 : decode cX5_foundOfFull 120 = .ok (.new 15, 3) := by decide +kernel
theorem dX5_foundOfFull_123 : decode cX5_foundOfFull 123 = .ok (.dup, 1) := by decide +kernel
theorem dX5_foundOfFull_124 : decode cX5_foundOfFull 124 = .ok (.iload_n 3, 1) := by decide +kernel
theorem dX5_foundOfFull_125 : decode cX5_foundOfFull 125 = .ok (.bipush (-3), 2) := by decide +kernel
theorem dX5_foundOfFull_127 : decode cX5_foundOfFull 127 = .ok (.aload 4, 2) := by decide +kernel
theorem dX5_foundOfFull_129 : decode cX5_foundOfFull 129 = .ok (.invokespecial 112, 3) := by decide +kernel
theorem dX5_foundOfFull_132 : decode cX5_foundOfFull 132 = .ok (.areturn, 1) := by decide +kernel
theorem dX5_foundOfOneName_0 : decode cX5_foundOfOneName 0 = .ok (.aload_n 0, 1) := by decide +kernel
theorem dX5_foundOfOneName_1 : decode cX5_foundOfOneName 1 = .ok (.getfield 273, 3) := by decide +kernel
theorem dX5_foundOfOneName_4 : decode cX5_foundOfOneName 4 = .ok (.iconst 0, 1) := by decide +kernel
theorem dX5_foundOfOneName_5 : decode cX5_foundOfOneName 5 = .ok (.iaload, 1) := by decide +kernel
theorem dX5_foundOfOneName_6 : decode cX5_foundOfOneName 6 = .ok (.iconst 0, 1) := by decide +kernel
theorem dX5_foundOfOneName_7 : decode cX5_foundOfOneName 7 = .ok (.invokestatic 276, 3) := by decide +kernel
theorem dX5_foundOfOneName_10 : decode cX5_foundOfOneName 10 = .ok (.invokestatic 91, 3) := by decide +kernel
theorem dX5_foundOfOneName_13 : decode cX5_foundOfOneName 13 = .ok (.astore_n 1, 1) := by decide +kernel
theorem dX5_foundOfOneName_14 : decode cX5_foundOfOneName 14 = .ok (.aload_n 0, 1) := by decide +kernel
theorem dX5_foundOfOneName_15 : decode cX5_foundOfOneName 15 = .ok (.invokevirtual 279, 3) := by decide +kernel
theorem dX5_foundOfOneName_18 : decode cX5_foundOfOneName 18 = .ok (.ifCond .eq 14, 3) := by decide +kernel
theorem dX5_foundOfOneName_21 : decode cX5_foundOfOneName 21 = .ok (.iconst 5, 1) := by decide +kernel
theorem dX5_foundOfOneName_22 : decode cX5_foundOfOneName 22 = .ok (.aload_n 1, 1) := by decide +kernel
theorem dX5_foundOfOneName_23 : decode cX5_foundOfOneName 23 = .ok (.invokestatic 87, 3) := by decide +kernel
theorem dX5_foundOfOneName_26 : decode cX5_foundOfOneName 26 = .ok (.invokestatic 102, 3) := by decide +kernel
theorem dX5_foundOfOneName_29 : decode cX5_foundOfOneName 29 = .ok (.goto 4, 3) := by decide +kernel
theorem dX5_foundOfOneName_32 : decode cX5_foundOfOneName 32 = .ok (.aload_n 1, 1) := by decide +kernel
theorem dX5_foundOfOneName_33 : decode cX5_foundOfOneName 33 = .ok (.areturn, 1) := by decide +kernel
theorem dX5_flower_0 : decode cX5_flower 0 = .ok (.iload_n 0, 1) := by decide +kernel
theorem dX5_flower_1 : decode cX5_flower 1 = .ok (.invokestatic 251, 3) := by decide +kernel
theorem dX5_flower_4 : decode cX5_flower 4 = .ok (.anewarray 15, 3) := by decide +kernel
theorem dX5_flower_7 : decode cX5_flower 7 = .ok (.astore_n 1, 1) := by decide +kernel
theorem dX5_flower_8 : decode cX5_flower 8 = .ok (.iconst 0, 1) := by decide +kernel
theorem dX5_flower_9 : decode cX5_flower 9 = .ok (.istore_n 2, 1) := by decide +kernel
theorem dX5_flower_10 : decode cX5_flower 10 = .ok (.iconst 0, 1) := by decide +kernel
theorem dX5_flower_11 : decode cX5_flower 11 = .ok (.istore_n 3, 1) := by decide +kernel
theorem dX5_flower_12 : decode cX5_flower 12 = .ok (.iload_n 3, 1) := by decide +kernel
theorem dX5_flower_13 : decode cX5_flower 13 = .ok (.bipush 12, 2) := by decide +kernel
theorem dX5_flower_15 : decode cX5_flower 15 = .ok (.if_icmp .ge 36, 3) := by decide +kernel
theorem dX5_flower_18 : decode cX5_flower 18 = .ok (.iload_n 0, 1) := by decide +kernel
theorem dX5_flower_19 : decode cX5_flower 19 = .ok (.iconst 1, 1) := by decide +kernel
theorem dX5_flower_20 : decode cX5_flower 20 = .ok (.iload_n 3, 1) := by decide +kernel
theorem dX5_flower_21 : decode cX5_flower 21 = .ok (.ishl, 1) := by decide +kernel
theorem dX5_flower_22 : decode cX5_flower 22 = .ok (.iand, 1) := by decide +kernel
theorem dX5_flower_23 : decode cX5_flower 23 = .ok (.ifCond .eq 22, 3) := by decide +kernel
theorem dX5_flower_26 : decode cX5_flower 26 = .ok (.iload_n 2, 1) := by decide +kernel
theorem dX5_flower_27 : decode cX5_flower 27 = .ok (.aload_n 1, 1) := by decide +kernel
theorem dX5_flower_28 : decode cX5_flower 28 = .ok (.arraylength, 1) := by decide +kernel
theorem dX5_flower_29 : decode cX5_flower 29 = .ok (.if_icmp .lt 6, 3) := by decide +kernel
theorem dX5_flower_32 : decode cX5_flower 32 = .ok (.goto 13, 3) := by decide +kernel
theorem dX5_flower_35 : decode cX5_flower 35 = .ok (.aload_n 1, 1) := by decide +kernel
theorem dX5_flower_36 : decode cX5_flower 36 = .ok (.iload_n 2, 1) := by decide +kernel
theorem dX5_flower_37 : decode cX5_flower 37 = .ok (.iload_n 3, 1) := by decide +kernel
theorem dX5_flower_38 : decode cX5_flower 38 = .ok (.invokestatic 91, 3) := by decide +kernel
theorem dX5_flower_41 : decode cX5_flower 41 = .ok (.aastore, 1) := by decide +kernel
theorem dX5_flower_42 : decode cX5_flower 42 = .ok (.iinc 2 1, 3) := by decide +kernel
theorem dX5_flower_45 : decode cX5_flower 45 = .ok (.iinc 3 1, 3) := by decide +kernel
theorem dX5_flower_48 : decode cX5_flower 48 = .ok (.goto (-36), 3) := by decide +kernel
theorem dX5_flower_51 : decode cX5_flower 51 = .ok (.iconst 5, 1) := by decide +kernel
theorem dX5_flower_52 : decode cX5_flower 52 = .ok (.new 15, 3) := by decide +kernel
theorem dX5_flower_55 : decode cX5_flower 55 = .ok (.dup, 1) := by decide +kernel
theorem dX5_flower_56 : decode cX5_flower 56 = .ok (.iconst 3, 1) := by decide +kernel
theorem dX5_flower_57 : decode cX5_flower 57 = .ok (.bipush (-3), 2) := by decide +kernel
theorem dX5_flower_59 : decode cX5_flower 59 = .ok (.aload_n 1, 1) := by decide +kernel
theorem dX5_flower_60 : decode cX5_flower 60 = .ok (.invokespecial 112, 3) := by decide +kernel
theorem dX5_flower_63 : decode cX5_flower 63 = .ok (.invokestatic 87, 3) := by decide +kernel
theorem dX5_flower_66 : decode cX5_flower 66 = .ok (.invokestatic 102, 3) := by decide +kernel
theorem dX5_flower_69 : decode cX5_flower 69 = .ok (.areturn, 1) := by decide +kernel
theorem dJ6_compare_7cf53_0 : decode cJ6_compare_7cf53 0 = .ok (.iload_n 0, 1) := by decide +kernel
theorem dJ6_compare_7cf53_1 : decode cJ6_compare_7cf53 1 = .ok (.iload_n 1, 1) := by decide +kernel
theorem dJ6_compare_7cf53_2 : decode cJ6_compare_7cf53 2 = .ok (.if_icmp .ge 7, 3) := by decide +kernel
theorem dJ6_compare_7cf53_5 : decode cJ6_compare_7cf53 5 = .ok (.iconst (-1), 1) := by decide +kernel
theorem dJ6_compare_7cf53_6 : decode cJ6_compare_7cf53 6 = .ok (.goto 13, 3) := by decide +kernel
theorem dJ6_compare_7cf53_9 : decode cJ6_compare_7cf53 9 = .ok (.iload_n 0, 1) := by decide +kernel
theorem dJ6_compare_7cf53_10 : decode cJ6_compare_7cf53 10 = .ok (.iload_n 1, 1) := by decide +kernel
theorem dJ6_compare_7cf53_11 : decode cJ6_compare_7cf53 11 = .ok (.if_icmp .ne 7, 3) := by decide +kernel
theorem dJ6_compare_7cf53_14 : decode cJ6_compare_7cf53 14 = .ok (.iconst 0, 1) := by decide +kernel
theorem dJ6_compare_7cf53_15 : decode cJ6_compare_7cf53 15 = .ok (.goto 4, 3) := by decide +kernel
theorem dJ6_compare_7cf53_18 : decode cJ6_compare_7cf53 18 = .ok (.iconst 1, 1) := by decide +kernel
theorem dJ6_compare_7cf53_19 : decode cJ6_compare_7cf53 19 = .ok (.ireturn, 1) := by decide +kernel
theorem dJ6_bitCount_0f7a4_0 : decode cJ6_bitCount_0f7a4 0 = .ok (.iload_n 0, 1) := by decide +kernel
theorem dJ6_bitCount_0f7a4_1 : decode cJ6_bitCount_0f7a4 1 = .ok (.iload_n 0, 1) := by decide +kernel
theorem dJ6_bitCount_0f7a4_2 : decode cJ6_bitCount_0f7a4 2 = .ok (.iconst 1, 1) := by decide +kernel
theorem dJ6_bitCount_0f7a4_3 : decode cJ6_bitCount_0f7a4 3 = .ok (.iushr, 1) := by decide +kernel
theorem dJ6_bitCount_0f7a4_4 : decode cJ6_bitCount_0f7a4 4 = .ok (.ldc_w 265, 3) := by decide +kernel
theorem dJ6_bitCount_0f7a4_7 : decode cJ6_bitCount_0f7a4 7 = .ok (.iand, 1) := by decide +kernel
theorem dJ6_bitCount_0f7a4_8 : decode cJ6_bitCount_0f7a4 8 = .ok (.isub, 1) := by decide +kernel
theorem dJ6_bitCount_0f7a4_9 : decode cJ6_bitCount_0f7a4 9 = .ok (.istore_n 0, 1) := by decide +kernel
theorem dJ6_bitCount_0f7a4_10 : decode cJ6_bitCount_0f7a4 10 = .ok (.iload_n 0, 1) := by decide +kernel
theorem dJ6_bitCount_0f7a4_11 : decode cJ6_bitCount_0f7a4 11 = .ok (.ldc_w 266, 3) := by decide +kernel
theorem dJ6_bitCount_0f7a4_14 : decode cJ6_bitCount_0f7a4 14 = .ok (.iand, 1) := by decide +kernel
theorem dJ6_bitCount_0f7a4_15 : decode cJ6_bitCount_0f7a4 15 = .ok (.iload_n 0, 1) := by decide +kernel
theorem dJ6_bitCount_0f7a4_16 : decode cJ6_bitCount_0f7a4 16 = .ok (.iconst 2, 1) := by decide +kernel
theorem dJ6_bitCount_0f7a4_17 : decode cJ6_bitCount_0f7a4 17 = .ok (.iushr, 1) := by decide +kernel
theorem dJ6_bitCount_0f7a4_18 : decode cJ6_bitCount_0f7a4 18 = .ok (.ldc_w 266, 3) := by decide +kernel
theorem dJ6_bitCount_0f7a4_21 : decode cJ6_bitCount_0f7a4 21 = .ok (.iand, 1) := by decide +kernel
theorem dJ6_bitCount_0f7a4_22 : decode cJ6_bitCount_0f7a4 22 = .ok (.iadd, 1) := by decide +kernel
theorem dJ6_bitCount_0f7a4_23 : decode cJ6_bitCount_0f7a4 23 = .ok (.istore_n 0, 1) := by decide +kernel
theorem dJ6_bitCount_0f7a4_24 : decode cJ6_bitCount_0f7a4 24 = .ok (.iload_n 0, 1) := by decide +kernel
theorem dJ6_bitCount_0f7a4_25 : decode cJ6_bitCount_0f7a4 25 = .ok (.iload_n 0, 1) := by decide +kernel
theorem dJ6_bitCount_0f7a4_26 : decode cJ6_bitCount_0f7a4 26 = .ok (.iconst 4, 1) := by decide +kernel
theorem dJ6_bitCount_0f7a4_27 : decode cJ6_bitCount_0f7a4 27 = .ok (.iushr, 1) := by decide +kernel
theorem dJ6_bitCount_0f7a4_28 : decode cJ6_bitCount_0f7a4 28 = .ok (.iadd, 1) := by decide +kernel
theorem dJ6_bitCount_0f7a4_29 : decode cJ6_bitCount_0f7a4 29 = .ok (.ldc_w 267, 3) := by decide +kernel
theorem dJ6_bitCount_0f7a4_32 : decode cJ6_bitCount_0f7a4 32 = .ok (.iand, 1) := by decide +kernel
theorem dJ6_bitCount_0f7a4_33 : decode cJ6_bitCount_0f7a4 33 = .ok (.istore_n 0, 1) := by decide +kernel
theorem dJ6_bitCount_0f7a4_34 : decode cJ6_bitCount_0f7a4 34 = .ok (.iload_n 0, 1) := by decide +kernel
theorem dJ6_bitCount_0f7a4_35 : decode cJ6_bitCount_0f7a4 35 = .ok (.iload_n 0, 1) := by decide +kernel
theorem dJ6_bitCount_0f7a4_36 : decode cJ6_bitCount_0f7a4 36 = .ok (.bipush 8, 2) := by decide +kernel
theorem dJ6_bitCount_0f7a4_38 : decode cJ6_bitCount_0f7a4 38 = .ok (.iushr, 1) := by decide +kernel
theorem dJ6_bitCount_0f7a4_39 : decode cJ6_bitCount_0f7a4 39 = .ok (.iadd, 1) := by decide +kernel
theorem dJ6_bitCount_0f7a4_40 : decode cJ6_bitCount_0f7a4 40 = .ok (.istore_n 0, 1) := by decide +kernel
theorem dJ6_bitCount_0f7a4_41 : decode cJ6_bitCount_0f7a4 41 = .ok (.iload_n 0, 1) := by decide +kernel
theorem dJ6_bitCount_0f7a4_42 : decode cJ6_bitCount_0f7a4 42 = .ok (.iload_n 0, 1) := by decide +kernel
theorem dJ6_bitCount_0f7a4_43 : decode cJ6_bitCount_0f7a4 43 = .ok (.bipush 16, 2) := by decide +kernel
theorem dJ6_bitCount_0f7a4_45 : decode cJ6_bitCount_0f7a4 45 = .ok (.iushr, 1) := by decide +kernel
theorem dJ6_bitCount_0f7a4_46 : decode cJ6_bitCount_0f7a4 46 = .ok (.iadd, 1) := by decide +kernel
theorem dJ6_bitCount_0f7a4_47 : decode cJ6_bitCount_0f7a4 47 = .ok (.istore_n 0, 1) := by decide +kernel
theorem dJ6_bitCount_0f7a4_48 : decode cJ6_bitCount_0f7a4 48 = .ok (.iload_n 0, 1) := by decide +kernel
theorem dJ6_bitCount_0f7a4_49 : decode cJ6_bitCount_0f7a4 49 = .ok (.bipush 63, 2) := by decide +kernel
theorem dJ6_bitCount_0f7a4_51 : decode cJ6_bitCount_0f7a4 51 = .ok (.iand, 1) := by decide +kernel
theorem dJ6_bitCount_0f7a4_52 : decode cJ6_bitCount_0f7a4 52 = .ok (.ireturn, 1) := by decide +kernel
theorem dJ9_max_7cf53_0 : decode cJ9_max_7cf53 0 = .ok (.iload_n 0, 1) := by decide +kernel
theorem dJ9_max_7cf53_1 : decode cJ9_max_7cf53 1 = .ok (.iload_n 1, 1) := by decide +kernel
theorem dJ9_max_7cf53_2 : decode cJ9_max_7cf53 2 = .ok (.if_icmp .lt 7, 3) := by decide +kernel
theorem dJ9_max_7cf53_5 : decode cJ9_max_7cf53 5 = .ok (.iload_n 0, 1) := by decide +kernel
theorem dJ9_max_7cf53_6 : decode cJ9_max_7cf53 6 = .ok (.goto 4, 3) := by decide +kernel
theorem dJ9_max_7cf53_9 : decode cJ9_max_7cf53 9 = .ok (.iload_n 1, 1) := by decide +kernel
theorem dJ9_max_7cf53_10 : decode cJ9_max_7cf53 10 = .ok (.ireturn, 1) := by decide +kernel
theorem dJ9_min_7cf53_0 : decode cJ9_min_7cf53 0 = .ok (.iload_n 0, 1) := by decide +kernel
theorem dJ9_min_7cf53_1 : decode cJ9_min_7cf53 1 = .ok (.iload_n 1, 1) := by decide +kernel
theorem dJ9_min_7cf53_2 : decode cJ9_min_7cf53 2 = .ok (.if_icmp .gt 7, 3) := by decide +kernel
theorem dJ9_min_7cf53_5 : decode cJ9_min_7cf53 5 = .ok (.iload_n 0, 1) := by decide +kernel
theorem dJ9_min_7cf53_6 : decode cJ9_min_7cf53 6 = .ok (.goto 4, 3) := by decide +kernel
theorem dJ9_min_7cf53_9 : decode cJ9_min_7cf53 9 = .ok (.iload_n 1, 1) := by decide +kernel
theorem dJ9_min_7cf53_10 : decode cJ9_min_7cf53 10 = .ok (.ireturn, 1) := by decide +kernel
theorem dJxa1e45_init_da8c8_0 : decode cJxa1e45_init_da8c8 0 = .ok (.aload_n 0, 1) := by decide +kernel
theorem dJxa1e45_init_da8c8_1 : decode cJxa1e45_init_da8c8 1 = .ok (.invokespecial 1, 3) := by decide +kernel
theorem dJxa1e45_init_da8c8_4 : decode cJxa1e45_init_da8c8 4 = .ok (.return_, 1) := by decide +kernel
theorem dJxc12de_init_da8c8_0 : decode cJxc12de_init_da8c8 0 = .ok (.aload_n 0, 1) := by decide +kernel
theorem dJxc12de_init_da8c8_1 : decode cJxc12de_init_da8c8 1 = .ok (.invokespecial 1, 3) := by decide +kernel
theorem dJxc12de_init_da8c8_4 : decode cJxc12de_init_da8c8 4 = .ok (.aload_n 0, 1) := by decide +kernel
theorem dJxc12de_init_da8c8_5 : decode cJxc12de_init_da8c8 5 = .ok (.iconst 0, 1) := by decide +kernel
theorem dJxc12de_init_da8c8_6 : decode cJxc12de_init_da8c8 6 = .ok (.putfield 7, 3) := by decide +kernel
theorem dJxc12de_init_da8c8_9 : decode cJxc12de_init_da8c8 9 = .ok (.return_, 1) := by decide +kernel
theorem dJx4a65c_init_da8c8_0 : decode cJx4a65c_init_da8c8 0 = .ok (.aload_n 0, 1) := by decide +kernel
theorem dJx4a65c_init_da8c8_1 : decode cJx4a65c_init_da8c8 1 = .ok (.invokespecial 1, 3) := by decide +kernel
theorem dJx4a65c_init_da8c8_4 : decode cJx4a65c_init_da8c8 4 = .ok (.aload_n 0, 1) := by decide +kernel
theorem dJx4a65c_init_da8c8_5 : decode cJx4a65c_init_da8c8 5 = .ok (.getstatic 39, 3) := by decide +kernel
theorem dJx4a65c_init_da8c8_8 : decode cJx4a65c_init_da8c8 8 = .ok (.putfield 9, 3) := by decide +kernel
theorem dJx4a65c_init_da8c8_11 : decode cJx4a65c_init_da8c8 11 = .ok (.return_, 1) := by decide +kernel
theorem dJx4a65c_grow_92f84_0 : decode cJx4a65c_grow_92f84 0 = .ok (.aload_n 0, 1) := by decide +kernel
theorem dJx4a65c_grow_92f84_1 : decode cJx4a65c_grow_92f84 1 = .ok (.getfield 9, 3) := by decide +kernel
theorem dJx4a65c_grow_92f84_4 : decode cJx4a65c_grow_92f84 4 = .ok (.arraylength, 1) := by decide +kernel
theorem dJx4a65c_grow_92f84_5 : decode cJx4a65c_grow_92f84 5 = .ok (.istore_n 2, 1) := by decide +kernel
theorem dJx4a65c_grow_92f84_6 : decode cJx4a65c_grow_92f84 6 = .ok (.iload_n 2, 1) := by decide +kernel
theorem dJx4a65c_grow_92f84_7 : decode cJx4a65c_grow_92f84 7 = .ok (.ifCond .gt 13, 3) := by decide +kernel
theorem dJx4a65c_grow_92f84_10 : decode cJx4a65c_grow_92f84 10 = .ok (.aload_n 0, 1) := by decide +kernel
theorem dJx4a65c_grow_92f84_11 : decode cJx4a65c_grow_92f84 11 = .ok (.getfield 9, 3) := by decide +kernel
theorem dJx4a65c_grow_92f84_14 : decode cJx4a65c_grow_92f84 14 = .ok (.getstatic 39, 3) := by decide +kernel
theorem dJx4a65c_grow_92f84_17 : decode cJx4a65c_grow_92f84 17 = .ok (.if_acmp .eq 28, 3) := by decide +kernel
theorem dJx4a65c_grow_92f84_20 : decode cJx4a65c_grow_92f84 20 = .ok (.iload_n 2, 1) := by decide +kernel
theorem dJx4a65c_grow_92f84_21 : decode cJx4a65c_grow_92f84 21 = .ok (.iload_n 1, 1) := by decide +kernel
theorem dJx4a65c_grow_92f84_22 : decode cJx4a65c_grow_92f84 22 = .ok (.iload_n 2, 1) := by decide +kernel
theorem dJx4a65c_grow_92f84_23 : decode cJx4a65c_grow_92f84 23 = .ok (.isub, 1) := by decide +kernel
theorem dJx4a65c_grow_92f84_24 : decode cJx4a65c_grow_92f84 24 = .ok (.iload_n 2, 1) := by decide +kernel
theorem dJx4a65c_grow_92f84_25 : decode cJx4a65c_grow_92f84 25 = .ok (.iconst 1, 1) := by decide +kernel
theorem dJx4a65c_grow_92f84_26 : decode cJx4a65c_grow_92f84 26 = .ok (.ishr, 1) := by decide +kernel
theorem dJx4a65c_grow_92f84_27 : decode cJx4a65c_grow_92f84 27 = .ok (.invokestatic 73, 3) := by decide +kernel
theorem dJx4a65c_grow_92f84_30 : decode cJx4a65c_grow_92f84 30 = .ok (.istore_n 3, 1) := by decide +kernel
theorem dJx4a65c_grow_92f84_31 : decode cJx4a65c_grow_92f84 31 = .ok (.aload_n 0, 1) := by decide +kernel
theorem dJx4a65c_grow_92f84_32 : decode cJx4a65c_grow_92f84 32 = .ok (.aload_n 0, 1) := by decide +kernel
theorem dJx4a65c_grow_92f84_33 : decode cJx4a65c_grow_92f84 33 = .ok (.getfield 9, 3) := by decide +kernel
theorem dJx4a65c_grow_92f84_36 : decode cJx4a65c_grow_92f84 36 = .ok (.iload_n 3, 1) := by decide +kernel
theorem dJx4a65c_grow_92f84_37 : decode cJx4a65c_grow_92f84 37 = .ok (.invokestatic 66, 3) := by decide +kernel
theorem dJx4a65c_grow_92f84_40 : decode cJx4a65c_grow_92f84 40 = .ok (.dup_x1, 1) := by decide +kernel
theorem dJx4a65c_grow_92f84_41 : decode cJx4a65c_grow_92f84 41 = .ok (.putfield 9, 3) := by decide +kernel
theorem dJx4a65c_grow_92f84_44 : decode cJx4a65c_grow_92f84 44 = .ok (.areturn, 1) := by decide +kernel
theorem dJx4a65c_grow_92f84_45 : decode cJx4a65c_grow_92f84 45 = .ok (.aload_n 0, 1) := by decide +kernel
theorem dJx4a65c_grow_92f84_46 : decode cJx4a65c_grow_92f84 46 = .ok (.bipush 10, 2) := by decide +kernel
theorem dJx4a65c_grow_92f84_48 : decode cJx4a65c_grow_92f84 48 = .ok (.iload_n 1, 1) := by decide +kernel
theorem dJx4a65c_grow_92f84_49 : decode cJx4a65c_grow_92f84 49 = .ok (.invokestatic 79, 3) := by decide +kernel
theorem dJx4a65c_grow_92f84_52 : decode cJx4a65c_grow_92f84 52 = .ok (.anewarray 7, 3) := by decide +kernel
theorem dJx4a65c_grow_92f84_55 : decode cJx4a65c_grow_92f84 55 = .ok (.dup_x1, 1) := by decide +kernel
theorem dJx4a65c_grow_92f84_56 : decode cJx4a65c_grow_92f84 56 = .ok (.putfield 9, 3) := by decide +kernel
theorem dJx4a65c_grow_92f84_59 : decode cJx4a65c_grow_92f84 59 = .ok (.areturn, 1) := by decide +kernel
theorem dJx4a65c_grow_d5877_0 : decode cJx4a65c_grow_d5877 0 = .ok (.aload_n 0, 1) := by decide +kernel
theorem dJx4a65c_grow_d5877_1 : decode cJx4a65c_grow_d5877 1 = .ok (.aload_n 0, 1) := by decide +kernel
theorem dJx4a65c_grow_d5877_2 : decode cJx4a65c_grow_d5877 2 = .ok (.getfield 48, 3) := by decide +kernel
theorem dJx4a65c_grow_d5877_5 : decode cJx4a65c_grow_d5877 5 = .ok (.iconst 1, 1) := by decide +kernel
theorem dJx4a65c_grow_d5877_6 : decode cJx4a65c_grow_d5877 6 = .ok (.iadd, 1) := by decide +kernel
theorem dJx4a65c_grow_d5877_7 : decode cJx4a65c_grow_d5877 7 = .ok (.invokevirtual 69, 3) := by decide +kernel
theorem dJx4a65c_grow_d5877_10 : decode cJx4a65c_grow_d5877 10 = .ok (.areturn, 1) := by decide +kernel
theorem dJx4a65c_size_8abf5_0 : decode cJx4a65c_size_8abf5 0 = .ok (.aload_n 0, 1) := by decide +kernel
theorem dJx4a65c_size_8abf5_1 : decode cJx4a65c_size_8abf5 1 = .ok (.getfield 48, 3) := by decide +kernel
theorem dJx4a65c_size_8abf5_4 : decode cJx4a65c_size_8abf5 4 = .ok (.ireturn, 1) := by decide +kernel
theorem dJx4a65c_elementData_915e3_0 : decode cJx4a65c_elementData_915e3 0 = .ok (.aload_n 0, 1) := by decide +kernel
theorem dJx4a65c_elementData_915e3_1 : decode cJx4a65c_elementData_915e3 1 = .ok (.getfield 9, 3) := by decide +kernel
theorem dJx4a65c_elementData_915e3_4 : decode cJx4a65c_elementData_915e3 4 = .ok (.iload_n 1, 1) := by decide +kernel
theorem dJx4a65c_elementData_915e3_5 : decode cJx4a65c_elementData_915e3 5 = .ok (.aaload, 1) := by decide +kernel
theorem dJx4a65c_elementData_915e3_6 : decode cJx4a65c_elementData_915e3 6 = .ok (.areturn, 1) := by decide +kernel
theorem dJx4a65c_get_915e3_0 : decode cJx4a65c_get_915e3 0 = .ok (.iload_n 1, 1) := by decide +kernel
theorem dJx4a65c_get_915e3_1 : decode cJx4a65c_get_915e3 1 = .ok (.aload_n 0, 1) := by decide +kernel
theorem dJx4a65c_get_915e3_2 : decode cJx4a65c_get_915e3 2 = .ok (.getfield 48, 3) := by decide +kernel
theorem dJx4a65c_get_915e3_5 : decode cJx4a65c_get_915e3 5 = .ok (.invokestatic 118, 3) := by decide +kernel
theorem dJx4a65c_get_915e3_8 : decode cJx4a65c_get_915e3 8 = .ok (.pop, 1) := by decide +kernel
theorem dJx4a65c_get_915e3_9 : decode cJx4a65c_get_915e3 9 = .ok (.aload_n 0, 1) := by decide +kernel
theorem dJx4a65c_get_915e3_10 : decode cJx4a65c_get_915e3 10 = .ok (.iload_n 1, 1) := by decide +kernel
theorem dJx4a65c_get_915e3_11 : decode cJx4a65c_get_915e3 11 = .ok (.invokevirtual 123, 3) := by decide +kernel
theorem dJx4a65c_get_915e3_14 : decode cJx4a65c_get_915e3 14 = .ok (.areturn, 1) := by decide +kernel
theorem dJx4a65c_add_7a177_0 : decode cJx4a65c_add_7a177 0 = .ok (.aload_n 0, 1) := by decide +kernel
theorem dJx4a65c_add_7a177_1 : decode cJx4a65c_add_7a177 1 = .ok (.iload_n 1, 1) := by decide +kernel
theorem dJx4a65c_add_7a177_2 : decode cJx4a65c_add_7a177 2 = .ok (.invokevirtual 135, 3) := by decide +kernel
theorem dJx4a65c_add_7a177_5 : decode cJx4a65c_add_7a177 5 = .ok (.aload_n 0, 1) := by decide +kernel
theorem dJx4a65c_add_7a177_6 : decode cJx4a65c_add_7a177 6 = .ok (.dup, 1) := by decide +kernel
theorem dJx4a65c_add_7a177_7 : decode cJx4a65c_add_7a177 7 = .ok (.getfield 63, 3) := by decide +kernel
theorem dJx4a65c_add_7a177_10 : decode cJx4a65c_add_7a177 10 = .ok (.iconst 1, 1) := by decide +kernel
theorem dJx4a65c_add_7a177_11 : decode cJx4a65c_add_7a177 11 = .ok (.iadd, 1) := by decide +kernel
theorem dJx4a65c_add_7a177_12 : decode cJx4a65c_add_7a177 12 = .ok (.putfield 63, 3) := by decide +kernel
theorem dJx4a65c_add_7a177_15 : decode cJx4a65c_add_7a177 15 = .ok (.aload_n 0, 1) := by decide +kernel
theorem dJx4a65c_add_7a177_16 : decode cJx4a65c_add_7a177 16 = .ok (.getfield 48, 3) := by decide +kernel
theorem dJx4a65c_add_7a177_19 : decode cJx4a65c_add_7a177 19 = .ok (.dup, 1) := by decide +kernel
theorem dJx4a65c_add_7a177_20 : decode cJx4a65c_add_7a177 20 = .ok (.istore_n 3, 1) := by decide +kernel
theorem dJx4a65c_add_7a177_21 : decode cJx4a65c_add_7a177 21 = .ok (.aload_n 0, 1) := by decide +kernel
theorem dJx4a65c_add_7a177_22 : decode cJx4a65c_add_7a177 22 = .ok (.getfield 9, 3) := by decide +kernel
theorem dJx4a65c_add_7a177_25 : decode cJx4a65c_add_7a177 25 = .ok (.dup, 1) := by decide +kernel
theorem dJx4a65c_add_7a177_26 : decode cJx4a65c_add_7a177 26 = .ok (.astore 4, 2) := by decide +kernel
theorem dJx4a65c_add_7a177_28 : decode cJx4a65c_add_7a177 28 = .ok (.arraylength, 1) := by decide +kernel
theorem dJx4a65c_add_7a177_29 : decode cJx4a65c_add_7a177 29 = .ok (.if_icmp .ne 9, 3) := by decide +kernel
theorem dJx4a65c_add_7a177_32 : decode cJx4a65c_add_7a177 32 = .ok (.aload_n 0, 1) := by decide +kernel
theorem dJx4a65c_add_7a177_33 : decode cJx4a65c_add_7a177 33 = .ok (.invokevirtual 129, 3) := by decide +kernel
theorem dJx4a65c_add_7a177_36 : decode cJx4a65c_add_7a177 36 = .ok (.astore 4, 2) := by decide +kernel
theorem dJx4a65c_add_7a177_38 : decode cJx4a65c_add_7a177 38 = .ok (.aload 4, 2) := by decide +kernel
theorem dJx4a65c_add_7a177_40 : decode cJx4a65c_add_7a177 40 = .ok (.iload_n 1, 1) := by decide +kernel
theorem dJx4a65c_add_7a177_41 : decode cJx4a65c_add_7a177 41 = .ok (.aload 4, 2) := by decide +kernel
theorem dJx4a65c_add_7a177_43 : decode cJx4a65c_add_7a177 43 = .ok (.iload_n 1, 1) := by decide +kernel
theorem dJx4a65c_add_7a177_44 : decode cJx4a65c_add_7a177 44 = .ok (.iconst 1, 1) := by decide +kernel
theorem dJx4a65c_add_7a177_45 : decode cJx4a65c_add_7a177 45 = .ok (.iadd, 1) := by decide +kernel
theorem dJx4a65c_add_7a177_46 : decode cJx4a65c_add_7a177 46 = .ok (.iload_n 3, 1) := by decide +kernel
theorem dJx4a65c_add_7a177_47 : decode cJx4a65c_add_7a177 47 = .ok (.iload_n 1, 1) := by decide +kernel
theorem dJx4a65c_add_7a177_48 : decode cJx4a65c_add_7a177 48 = .ok (.isub, 1) := by decide +kernel
theorem dJx4a65c_add_7a177_49 : decode cJx4a65c_add_7a177 49 = .ok (.invokestatic 112, 3) := by decide +kernel
theorem dJx4a65c_add_7a177_52 : decode cJx4a65c_add_7a177 52 = .ok (.aload 4, 2) := by decide +kernel
theorem dJx4a65c_add_7a177_54 : decode cJx4a65c_add_7a177 54 = .ok (.iload_n 1, 1) := by decide +kernel
theorem dJx4a65c_add_7a177_55 : decode cJx4a65c_add_7a177 55 = .ok (.aload_n 2, 1) := by decide +kernel
theorem dJx4a65c_add_7a177_56 : decode cJx4a65c_add_7a177 56 = .ok (.aastore, 1) := by decide +kernel
theorem dJx4a65c_add_7a177_57 : decode cJx4a65c_add_7a177 57 = .ok (.aload_n 0, 1) := by decide +kernel
theorem dJx4a65c_add_7a177_58 : decode cJx4a65c_add_7a177 58 = .ok (.iload_n 3, 1) := by decide +kernel
theorem dJx4a65c_add_7a177_59 : decode cJx4a65c_add_7a177 59 = .ok (.iconst 1, 1) := by decide +kernel
theorem dJx4a65c_add_7a177_60 : decode cJx4a65c_add_7a177 60 = .ok (.iadd, 1) := by decide +kernel
theorem dJx4a65c_add_7a177_61 : decode cJx4a65c_add_7a177 61 = .ok (.putfield 48, 3) := by decide +kernel
theorem dJx4a65c_add_7a177_64 : decode cJx4a65c_add_7a177 64 = .ok (.return_, 1) := by decide +kernel
theorem dJx4a65c_rangeCheckForAdd_d00df_0 : decode cJx4a65c_rangeCheckForAdd_d00df 0 = .ok (.iload_n 1, 1) := by decide +kernel
theorem dJx4a65c_rangeCheckForAdd_d00df_1 : decode cJx4a65c_rangeCheckForAdd_d00df 1 = .ok (.aload_n 0, 1) := by decide +kernel
theorem dJx4a65c_rangeCheckForAdd_d00df_2 : decode cJx4a65c_rangeCheckForAdd_d00df 2 = .ok (.getfield 48, 3) := by decide +kernel
theorem dJx4a65c_rangeCheckForAdd_d00df_5 : decode cJx4a65c_rangeCheckForAdd_d00df 5 = .ok (.if_icmp .gt 7, 3) := by decide +kernel
theorem dJx4a65c_rangeCheckForAdd_d00df_8 : decode cJx4a65c_rangeCheckForAdd_d00df 8 = .ok (.iload_n 1, 1) := by decide +kernel
theorem dJx4a65c_rangeCheckForAdd_d00df_9 : decode cJx4a65c_rangeCheckForAdd_d00df 9 = .ok (.ifCond .ge 16, 3) := by decide +kernel
theorem dJx4a65c_rangeCheckForAdd_d00df_12 : decode cJx4a65c_rangeCheckForAdd_d00df 12 = .ok (.new 187, 3) := by decide +kernel
theorem dJx4a65c_rangeCheckForAdd_d00df_15 : decode cJx4a65c_rangeCheckForAdd_d00df 15 = .ok (.dup, 1) := by decide +kernel
theorem dJx4a65c_rangeCheckForAdd_d00df_16 : decode cJx4a65c_rangeCheckForAdd_d00df 16 = .ok (.aload_n 0, 1) := by decide +kernel
theorem dJx4a65c_rangeCheckForAdd_d00df_17 : decode cJx4a65c_rangeCheckForAdd_d00df 17 = .ok (.iload_n 1, 1) := by decide +kernel
theorem dJx4a65c_rangeCheckForAdd_d00df_18 : decode cJx4a65c_rangeCheckForAdd_d00df 18 = .ok (.invokevirtual 198, 3) := by decide +kernel
theorem dJx4a65c_rangeCheckForAdd_d00df_21 : decode cJx4a65c_rangeCheckForAdd_d00df 21 = .ok (.invokespecial 193, 3) := by decide +kernel
theorem dJx4a65c_rangeCheckForAdd_d00df_24 : decode cJx4a65c_rangeCheckForAdd_d00df 24 = .ok (.athrow, 1) := by decide +kernel
theorem dJx4a65c_rangeCheckForAdd_d00df_25 : decode cJx4a65c_rangeCheckForAdd_d00df 25 = .ok (.return_, 1) := by decide +kernel
theorem dJ7_fill_53178_0 : decode cJ7_fill_53178 0 = .ok (.iconst 0, 1) := by decide +kernel
theorem dJ7_fill_53178_1 : decode cJ7_fill_53178 1 = .ok (.istore_n 2, 1) := by decide +kernel
theorem dJ7_fill_53178_2 : decode cJ7_fill_53178 2 = .ok (.aload_n 0, 1) := by decide +kernel
theorem dJ7_fill_53178_3 : decode cJ7_fill_53178 3 = .ok (.arraylength, 1) := by decide +kernel
theorem dJ7_fill_53178_4 : decode cJ7_fill_53178 4 = .ok (.istore_n 3, 1) := by decide +kernel
theorem dJ7_fill_53178_5 : decode cJ7_fill_53178 5 = .ok (.iload_n 2, 1) := by decide +kernel
theorem dJ7_fill_53178_6 : decode cJ7_fill_53178 6 = .ok (.iload_n 3, 1) := by decide +kernel
theorem dJ7_fill_53178_7 : decode cJ7_fill_53178 7 = .ok (.if_icmp .ge 13, 3) := by decide +kernel
theorem dJ7_fill_53178_10 : decode cJ7_fill_53178 10 = .ok (.aload_n 0, 1) := by decide +kernel
theorem dJ7_fill_53178_11 : decode cJ7_fill_53178 11 = .ok (.iload_n 2, 1) := by decide +kernel
theorem dJ7_fill_53178_12 : decode cJ7_fill_53178 12 = .ok (.iload_n 1, 1) := by decide +kernel
theorem dJ7_fill_53178_13 : decode cJ7_fill_53178 13 = .ok (.iastore, 1) := by decide +kernel
theorem dJ7_fill_53178_14 : decode cJ7_fill_53178 14 = .ok (.iinc 2 1, 3) := by decide +kernel
theorem dJ7_fill_53178_17 : decode cJ7_fill_53178 17 = .ok (.goto (-12), 3) := by decide +kernel
theorem dJ7_fill_53178_20 : decode cJ7_fill_53178 20 = .ok (.return_, 1) := by decide +kernel
theorem dJ7_copyOf_1904c_0 : decode cJ7_copyOf_1904c 0 = .ok (.aload_n 0, 1) := by decide +kernel
theorem dJ7_copyOf_1904c_1 : decode cJ7_copyOf_1904c 1 = .ok (.iload_n 1, 1) := by decide +kernel
theorem dJ7_copyOf_1904c_2 : decode cJ7_copyOf_1904c 2 = .ok (.aload_n 0, 1) := by decide +kernel
theorem dJ7_copyOf_1904c_3 : decode cJ7_copyOf_1904c 3 = .ok (.invokevirtual 86, 3) := by decide +kernel
theorem dJ7_copyOf_1904c_6 : decode cJ7_copyOf_1904c 6 = .ok (.invokestatic 300, 3) := by decide +kernel
theorem dJ7_copyOf_1904c_9 : decode cJ7_copyOf_1904c 9 = .ok (.areturn, 1) := by decide +kernel
theorem dJ7_copyOf_6403c_0 : decode cJ7_copyOf_6403c 0 = .ok (.aload_n 2, 1) := by decide +kernel
theorem dJ7_copyOf_6403c_1 : decode cJ7_copyOf_6403c 1 = .ok (.ldc 110, 2) := by decide +kernel
theorem dJ7_copyOf_6403c_3 : decode cJ7_copyOf_6403c 3 = .ok (.if_acmp .ne 10, 3) := by decide +kernel
theorem dJ7_copyOf_6403c_6 : decode cJ7_copyOf_6403c 6 = .ok (.iload_n 1, 1) := by decide +kernel
theorem dJ7_copyOf_6403c_7 : decode cJ7_copyOf_6403c 7 = .ok (.anewarray 2, 3) := by decide +kernel
theorem dJ7_copyOf_6403c_10 : decode cJ7_copyOf_6403c 10 = .ok (.goto 14, 3) := by decide +kernel
theorem dJ7_copyOf_6403c_13 : decode cJ7_copyOf_6403c 13 = .ok (.aload_n 2, 1) := by decide +kernel
theorem dJ7_copyOf_6403c_14 : decode cJ7_copyOf_6403c 14 = .ok (.invokevirtual 90, 3) := by decide +kernel
theorem dJ7_copyOf_6403c_17 : decode cJ7_copyOf_6403c 17 = .ok (.iload_n 1, 1) := by decide +kernel
theorem dJ7_copyOf_6403c_18 : decode cJ7_copyOf_6403c 18 = .ok (.invokestatic 95, 3) := by decide +kernel
theorem dJ7_copyOf_6403c_21 : decode cJ7_copyOf_6403c 21 = .ok (.checkcast 110, 3) := by decide +kernel
theorem dJ7_copyOf_6403c_24 : decode cJ7_copyOf_6403c 24 = .ok (.astore_n 3, 1) := by decide +kernel
theorem dJ7_copyOf_6403c_25 : decode cJ7_copyOf_6403c 25 = .ok (.aload_n 0, 1) := by decide +kernel
theorem dJ7_copyOf_6403c_26 : decode cJ7_copyOf_6403c 26 = .ok (.iconst 0, 1) := by decide +kernel
theorem dJ7_copyOf_6403c_27 : decode cJ7_copyOf_6403c 27 = .ok (.aload_n 3, 1) := by decide +kernel
theorem dJ7_copyOf_6403c_28 : decode cJ7_copyOf_6403c 28 = .ok (.iconst 0, 1) := by decide +kernel
theorem dJ7_copyOf_6403c_29 : decode cJ7_copyOf_6403c 29 = .ok (.aload_n 0, 1) := by decide +kernel
theorem dJ7_copyOf_6403c_30 : decode cJ7_copyOf_6403c 30 = .ok (.arraylength, 1) := by decide +kernel
theorem dJ7_copyOf_6403c_31 : decode cJ7_copyOf_6403c 31 = .ok (.iload_n 1, 1) := by decide +kernel
theorem dJ7_copyOf_6403c_32 : decode cJ7_copyOf_6403c 32 = .ok (.invokestatic 304, 3) := by decide +kernel
theorem dJ7_copyOf_6403c_35 : decode cJ7_copyOf_6403c 35 = .ok (.invokestatic 150, 3) := by decide +kernel
theorem dJ7_copyOf_6403c_38 : decode cJ7_copyOf_6403c 38 = .ok (.aload_n 3, 1) := by decide +kernel
theorem dJ7_copyOf_6403c_39 : decode cJ7_copyOf_6403c 39 = .ok (.areturn, 1) := by decide +kernel
theorem dJ15_checkIndex_7cf53_0 : decode cJ15_checkIndex_7cf53 0 = .ok (.iload_n 0, 1) := by decide +kernel
theorem dJ15_checkIndex_7cf53_1 : decode cJ15_checkIndex_7cf53 1 = .ok (.iload_n 1, 1) := by decide +kernel
theorem dJ15_checkIndex_7cf53_2 : decode cJ15_checkIndex_7cf53 2 = .ok (.aconst_null, 1) := by decide +kernel
theorem dJ15_checkIndex_7cf53_3 : decode cJ15_checkIndex_7cf53 3 = .ok (.invokestatic 105, 3) := by decide +kernel
theorem dJ15_checkIndex_7cf53_6 : decode cJ15_checkIndex_7cf53 6 = .ok (.ireturn, 1) := by decide +kernel
theorem dJ8_newLength_cabcc_0 : decode cJ8_newLength_cabcc 0 = .ok (.iload_n 0, 1) := by decide +kernel
theorem dJ8_newLength_cabcc_1 : decode cJ8_newLength_cabcc 1 = .ok (.iload_n 1, 1) := by decide +kernel
theorem dJ8_newLength_cabcc_2 : decode cJ8_newLength_cabcc 2 = .ok (.iload_n 2, 1) := by decide +kernel
theorem dJ8_newLength_cabcc_3 : decode cJ8_newLength_cabcc 3 = .ok (.invokestatic 194, 3) := by decide +kernel
theorem dJ8_newLength_cabcc_6 : decode cJ8_newLength_cabcc 6 = .ok (.iadd, 1) := by decide +kernel
theorem dJ8_newLength_cabcc_7 : decode cJ8_newLength_cabcc 7 = .ok (.istore_n 3, 1) := by decide +kernel
theorem dJ8_newLength_cabcc_8 : decode cJ8_newLength_cabcc 8 = .ok (.iconst 0, 1) := by decide +kernel
theorem dJ8_newLength_cabcc_9 : decode cJ8_newLength_cabcc 9 = .ok (.iload_n 3, 1) := by decide +kernel
theorem dJ8_newLength_cabcc_10 : decode cJ8_newLength_cabcc 10 = .ok (.if_icmp .ge 11, 3) := by decide +kernel
theorem dJ8_newLength_cabcc_13 : decode cJ8_newLength_cabcc 13 = .ok (.iload_n 3, 1) := by decide +kernel
theorem dJ8_newLength_cabcc_14 : decode cJ8_newLength_cabcc 14 = .ok (.ldc 200, 2) := by decide +kernel
theorem dJ8_newLength_cabcc_16 : decode cJ8_newLength_cabcc 16 = .ok (.if_icmp .gt 5, 3) := by decide +kernel
theorem dJ8_newLength_cabcc_19 : decode cJ8_newLength_cabcc 19 = .ok (.iload_n 3, 1) := by decide +kernel
theorem dJ8_newLength_cabcc_20 : decode cJ8_newLength_cabcc 20 = .ok (.ireturn, 1) := by decide +kernel
theorem dJ8_newLength_cabcc_21 : decode cJ8_newLength_cabcc 21 = .ok (.iload_n 0, 1) := by decide +kernel
theorem dJ8_newLength_cabcc_22 : decode cJ8_newLength_cabcc 22 = .ok (.iload_n 1, 1) := by decide +kernel
theorem dJ8_newLength_cabcc_23 : decode cJ8_newLength_cabcc 23 = .ok (.invokestatic 201, 3) := by decide +kernel
theorem dJ8_newLength_cabcc_26 : decode cJ8_newLength_cabcc 26 = .ok (.ireturn, 1) := by decide +kernel
theorem dJ8_hugeLength_7cf53_0 : decode cJ8_hugeLength_7cf53 0 = .ok (.iload_n 0, 1) := by decide +kernel
theorem dJ8_hugeLength_7cf53_1 : decode cJ8_hugeLength_7cf53 1 = .ok (.iload_n 1, 1) := by decide +kernel
theorem dJ8_hugeLength_7cf53_2 : decode cJ8_hugeLength_7cf53 2 = .ok (.iadd, 1) := by decide +kernel
theorem dJ8_hugeLength_7cf53_3 : decode cJ8_hugeLength_7cf53 3 = .ok (.istore_n 2, 1) := by decide +kernel
theorem dJ8_hugeLength_7cf53_4 : decode cJ8_hugeLength_7cf53 4 = .ok (.iload_n 2, 1) := by decide +kernel
theorem dJ8_hugeLength_7cf53_5 : decode cJ8_hugeLength_7cf53 5 = .ok (.ifCond .ge 44, 3) := by decide +kernel
theorem dJ8_hugeLength_7cf53_8 : decode cJ8_hugeLength_7cf53 8 = .ok (.new 204, 3) := by decide +kernel
theorem dJ8_hugeLength_7cf53_11 : decode cJ8_hugeLength_7cf53 11 = .ok (.dup, 1) := by decide +kernel
theorem dJ8_hugeLength_7cf53_12 : decode cJ8_hugeLength_7cf53 12 = .ok (.new 89, 3) := by decide +kernel
theorem dJ8_hugeLength_7cf53_15 : decode cJ8_hugeLength_7cf53 15 = .ok (.dup, 1) := by decide +kernel
theorem dJ8_hugeLength_7cf53_16 : decode cJ8_hugeLength_7cf53 16 = .ok (.invokespecial 91, 3) := by decide +kernel
theorem dJ8_hugeLength_7cf53_19 : decode cJ8_hugeLength_7cf53 19 = .ok (.ldc 206, 2) := by decide +kernel
theorem dJ8_hugeLength_7cf53_21 : decode cJ8_hugeLength_7cf53 21 = .ok (.invokevirtual 94, 3) := by decide +kernel
theorem dJ8_hugeLength_7cf53_24 : decode cJ8_hugeLength_7cf53 24 = .ok (.iload_n 0, 1) := by decide +kernel
theorem dJ8_hugeLength_7cf53_25 : decode cJ8_hugeLength_7cf53 25 = .ok (.invokevirtual 98, 3) := by decide +kernel
theorem dJ8_hugeLength_7cf53_28 : decode cJ8_hugeLength_7cf53 28 = .ok (.ldc 208, 2) := by decide +kernel
theorem dJ8_hugeLength_7cf53_30 : decode cJ8_hugeLength_7cf53 30 = .ok (.invokevirtual 94, 3) := by decide +kernel
theorem dJ8_hugeLength_7cf53_33 : decode cJ8_hugeLength_7cf53 33 = .ok (.iload_n 1, 1) := by decide +kernel
theorem dJ8_hugeLength_7cf53_34 : decode cJ8_hugeLength_7cf53 34 = .ok (.invokevirtual 98, 3) := by decide +kernel
theorem dJ8_hugeLength_7cf53_37 : decode cJ8_hugeLength_7cf53 37 = .ok (.ldc 210, 2) := by decide +kernel
theorem dJ8_hugeLength_7cf53_39 : decode cJ8_hugeLength_7cf53 39 = .ok (.invokevirtual 94, 3) := by decide +kernel
theorem dJ8_hugeLength_7cf53_42 : decode cJ8_hugeLength_7cf53 42 = .ok (.invokevirtual 101, 3) := by decide +kernel
theorem dJ8_hugeLength_7cf53_45 : decode cJ8_hugeLength_7cf53 45 = .ok (.invokespecial 212, 3) := by decide +kernel
theorem dJ8_hugeLength_7cf53_48 : decode cJ8_hugeLength_7cf53 48 = .ok (.athrow, 1) := by decide +kernel
theorem dJ8_hugeLength_7cf53_49 : decode cJ8_hugeLength_7cf53 49 = .ok (.iload_n 2, 1) := by decide +kernel
theorem dJ8_hugeLength_7cf53_50 : decode cJ8_hugeLength_7cf53 50 = .ok (.ldc 200, 2) := by decide +kernel
theorem dJ8_hugeLength_7cf53_52 : decode cJ8_hugeLength_7cf53 52 = .ok (.if_icmp .gt 6, 3) := by decide +kernel
theorem dJ8_hugeLength_7cf53_55 : decode cJ8_hugeLength_7cf53 55 = .ok (.ldc 200, 2) := by decide +kernel
theorem dJ8_hugeLength_7cf53_57 : decode cJ8_hugeLength_7cf53 57 = .ok (.ireturn, 1) := by decide +kernel
theorem dJ8_hugeLength_7cf53_58 : decode cJ8_hugeLength_7cf53 58 = .ok (.iload_n 2, 1) := by decide +kernel
theorem dJ8_hugeLength_7cf53_59 : decode cJ8_hugeLength_7cf53 59 = .ok (.ireturn, 1) := by decide +kernel
theorem dJ3_checkIndex_8e157_0 : decode cJ3_checkIndex_8e157 0 = .ok (.iload_n 0, 1) := by decide +kernel
theorem dJ3_checkIndex_8e157_1 : decode cJ3_checkIndex_8e157 1 = .ok (.ifCond .lt 8, 3) := by decide +kernel
theorem dJ3_checkIndex_8e157_4 : decode cJ3_checkIndex_8e157 4 = .ok (.iload_n 0, 1) := by decide +kernel
theorem dJ3_checkIndex_8e157_5 : decode cJ3_checkIndex_8e157 5 = .ok (.iload_n 1, 1) := by decide +kernel
theorem dJ3_checkIndex_8e157_6 : decode cJ3_checkIndex_8e157 6 = .ok (.if_icmp .lt 10, 3) := by decide +kernel
theorem dJ3_checkIndex_8e157_9 : decode cJ3_checkIndex_8e157 9 = .ok (.aload_n 2, 1) := by decide +kernel
theorem dJ3_checkIndex_8e157_10 : decode cJ3_checkIndex_8e157 10 = .ok (.iload_n 0, 1) := by decide +kernel
theorem dJ3_checkIndex_8e157_11 : decode cJ3_checkIndex_8e157 11 = .ok (.iload_n 1, 1) := by decide +kernel
theorem dJ3_checkIndex_8e157_12 : decode cJ3_checkIndex_8e157 12 = .ok (.invokestatic 95, 3) := by decide +kernel
theorem dJ3_checkIndex_8e157_15 : decode cJ3_checkIndex_8e157 15 = .ok (.athrow, 1) := by decide +kernel
theorem dJ3_checkIndex_8e157_16 : decode cJ3_checkIndex_8e157 16 = .ok (.iload_n 0, 1) := by decide +kernel
theorem dJ3_checkIndex_8e157_17 : decode cJ3_checkIndex_8e157 17 = .ok (.ireturn, 1) := by decide +kernel
theorem dL_cell_0 : decode cL_cell 0 = .ok (.iload_n 1, 1) := by decide +kernel
theorem dL_cell_1 : decode cL_cell 1 = .ok (.aload_n 0, 1) := by decide +kernel
theorem dL_cell_2 : decode cL_cell 2 = .ok (.arraylength, 1) := by decide +kernel
theorem dL_cell_3 : decode cL_cell 3 = .ok (.if_icmp .ge 9, 3) := by decide +kernel
theorem dL_cell_6 : decode cL_cell 6 = .ok (.aload_n 0, 1) := by decide +kernel
theorem dL_cell_7 : decode cL_cell 7 = .ok (.iload_n 1, 1) := by decide +kernel
theorem dL_cell_8 : decode cL_cell 8 = .ok (.iaload, 1) := by decide +kernel
theorem dL_cell_9 : decode cL_cell 9 = .ok (.goto 9, 3) := by decide +kernel
theorem dL_cell_12 : decode cL_cell 12 = .ok (.ldc 7, 2) := by decide +kernel
theorem dL_cell_14 : decode cL_cell 14 = .ok (.iload_n 1, 1) := by decide +kernel
theorem dL_cell_15 : decode cL_cell 15 = .ok (.iconst 1, 1) := by decide +kernel
theorem dL_cell_16 : decode cL_cell 16 = .ok (.iadd, 1) := by decide +kernel
theorem dL_cell_17 : decode cL_cell 17 = .ok (.imul, 1) := by decide +kernel
theorem dL_cell_18 : decode cL_cell 18 = .ok (.ireturn, 1) := by decide +kernel
theorem dL_some_0 : decode cL_some 0 = .ok (.iload_n 0, 1) := by decide +kernel
theorem dL_some_1 : decode cL_some 1 = .ok (.ldc 8, 2) := by decide +kernel
theorem dL_some_3 : decode cL_some 3 = .ok (.iand, 1) := by decide +kernel
theorem dL_some_4 : decode cL_some 4 = .ok (.iload_n 1, 1) := by decide +kernel
theorem dL_some_5 : decode cL_some 5 = .ok (.irem, 1) := by decide +kernel
theorem dL_some_6 : decode cL_some 6 = .ok (.ireturn, 1) := by decide +kernel
theorem dL_act_0 : decode cL_act 0 = .ok (.iload_n 1, 1) := by decide +kernel
theorem dL_act_1 : decode cL_act 1 = .ok (.iconst 4, 1) := by decide +kernel
theorem dL_act_2 : decode cL_act 2 = .ok (.ishr, 1) := by decide +kernel
theorem dL_act_3 : decode cL_act 3 = .ok (.bipush 6, 2) := by decide +kernel
theorem dL_act_5 : decode cL_act 5 = .ok (.invokestatic 9, 3) := by decide +kernel
theorem dL_act_8 : decode cL_act 8 = .ok (.istore_n 2, 1) := by decide +kernel
theorem dL_act_9 : decode cL_act 9 = .ok (.iload_n 1, 1) := by decide +kernel
theorem dL_act_10 : decode cL_act 10 = .ok (.bipush 7, 2) := by decide +kernel
theorem dL_act_12 : decode cL_act 12 = .ok (.ishr, 1) := by decide +kernel
theorem dL_act_13 : decode cL_act 13 = .ok (.bipush 40, 2) := by decide +kernel
theorem dL_act_15 : decode cL_act 15 = .ok (.invokestatic 9, 3) := by decide +kernel
theorem dL_act_18 : decode cL_act 18 = .ok (.istore_n 3, 1) := by decide +kernel
theorem dL_act_19 : decode cL_act 19 = .ok (.iload_n 1, 1) := by decide +kernel
theorem dL_act_20 : decode cL_act 20 = .ok (.bipush 13, 2) := by decide +kernel
theorem dL_act_22 : decode cL_act 22 = .ok (.ishr, 1) := by decide +kernel
theorem dL_act_23 : decode cL_act 23 = .ok (.bipush 40, 2) := by decide +kernel
theorem dL_act_25 : decode cL_act 25 = .ok (.invokestatic 9, 3) := by decide +kernel
theorem dL_act_28 : decode cL_act 28 = .ok (.istore 4, 2) := by decide +kernel
theorem dL_act_30 : decode cL_act 30 = .ok (.iload_n 1, 1) := by decide +kernel
theorem dL_act_31 : decode cL_act 31 = .ok (.bipush 15, 2) := by decide +kernel
theorem dL_act_33 : decode cL_act 33 = .ok (.iand, 1) := by decide +kernel
theorem dL_act_34 : decode cL_act 34 = .ok (.tableswitch 194 0 13 #[70, 75, 75, 75, 75, 75, 118, 124, 143, 159, 159, 175, 183, 189], 70) := by decide +kernel
theorem dL_act_104 : decode cL_act 104 = .ok (.aload_n 0, 1) := by decide +kernel
theorem dL_act_105 : decode cL_act 105 = .ok (.invokevirtual 15, 3) := by decide +kernel
theorem dL_act_108 : decode cL_act 108 = .ok (.ireturn, 1) := by decide +kernel
theorem dL_act_109 : decode cL_act 109 = .ok (.aload_n 0, 1) := by decide +kernel
theorem dL_act_110 : decode cL_act 110 = .ok (.iload_n 2, 1) := by decide +kernel
theorem dL_act_111 : decode cL_act 111 = .ok (.iload_n 1, 1) := by decide +kernel
theorem dL_act_112 : decode cL_act 112 = .ok (.bipush 8, 2) := by decide +kernel
theorem dL_act_114 : decode cL_act 114 = .ok (.ishr, 1) := by decide +kernel
theorem dL_act_115 : decode cL_act 115 = .ok (.iconst 5, 1) := by decide +kernel
theorem dL_act_116 : decode cL_act 116 = .ok (.invokestatic 9, 3) := by decide +kernel
theorem dL_act_119 : decode cL_act 119 = .ok (.iload_n 1, 1) := by decide +kernel
theorem dL_act_120 : decode cL_act 120 = .ok (.bipush 11, 2) := by decide +kernel
theorem dL_act_122 : decode cL_act 122 = .ok (.ishr, 1) := by decide +kernel
theorem dL_act_123 : decode cL_act 123 = .ok (.bipush 7, 2) := by decide +kernel
theorem dL_act_125 : decode cL_act 125 = .ok (.iand, 1) := by decide +kernel
theorem dL_act_126 : decode cL_act 126 = .ok (.iload_n 1, 1) := by decide +kernel
theorem dL_act_127 : decode cL_act 127 = .ok (.bipush 14, 2) := by decide +kernel
theorem dL_act_129 : decode cL_act 129 = .ok (.ishr, 1) := by decide +kernel
theorem dL_act_130 : decode cL_act 130 = .ok (.bipush 90, 2) := by decide +kernel
theorem dL_act_132 : decode cL_act 132 = .ok (.invokestatic 9, 3) := by decide +kernel
theorem dL_act_135 : decode cL_act 135 = .ok (.iconst 1, 1) := by decide +kernel
theorem dL_act_136 : decode cL_act 136 = .ok (.isub, 1) := by decide +kernel
theorem dL_act_137 : decode cL_act 137 = .ok (.iload_n 1, 1) := by decide +kernel
theorem dL_act_138 : decode cL_act 138 = .ok (.bipush 16, 2) := by decide +kernel
theorem dL_act_140 : decode cL_act 140 = .ok (.ishr, 1) := by decide +kernel
theorem dL_act_141 : decode cL_act 141 = .ok (.bipush 90, 2) := by decide +kernel
theorem dL_act_143 : decode cL_act 143 = .ok (.invokestatic 9, 3) := by decide +kernel
theorem dL_act_146 : decode cL_act 146 = .ok (.iconst 1, 1) := by decide +kernel
theorem dL_act_147 : decode cL_act 147 = .ok (.isub, 1) := by decide +kernel
theorem dL_act_148 : decode cL_act 148 = .ok (.invokevirtual 21, 3) := by decide +kernel
theorem dL_act_151 : decode cL_act 151 = .ok (.ireturn, 1) := by decide +kernel
theorem dL_act_152 : decode cL_act 152 = .ok (.aload_n 0, 1) := by decide +kernel
theorem dL_act_153 : decode cL_act 153 = .ok (.iload_n 2, 1) := by decide +kernel
theorem dL_act_154 : decode cL_act 154 = .ok (.invokevirtual 25, 3) := by decide +kernel
theorem dL_act_157 : decode cL_act 157 = .ok (.ireturn, 1) := by decide +kernel
theorem dL_act_158 : decode cL_act 158 = .ok (.aload_n 0, 1) := by decide +kernel
theorem dL_act_159 : decode cL_act 159 = .ok (.iload_n 2, 1) := by decide +kernel
theorem dL_act_160 : decode cL_act 160 = .ok (.iload_n 1, 1) := by decide +kernel
theorem dL_act_161 : decode cL_act 161 = .ok (.sipush 256, 3) := by decide +kernel
theorem dL_act_164 : decode cL_act 164 = .ok (.iand, 1) := by decide +kernel
theorem dL_act_165 : decode cL_act 165 = .ok (.ifCond .eq 7, 3) := by decide +kernel
theorem dL_act_168 : decode cL_act 168 = .ok (.iconst 1, 1) := by decide +kernel
theorem dL_act_169 : decode cL_act 169 = .ok (.goto 4, 3) := by decide +kernel
theorem dL_act_172 : decode cL_act 172 = .ok (.iconst 0, 1) := by decide +kernel
theorem dL_act_173 : decode cL_act 173 = .ok (.invokevirtual 29, 3) := by decide +kernel
theorem dL_act_176 : decode cL_act 176 = .ok (.ireturn, 1) := by decide +kernel
theorem dL_act_177 : decode cL_act 177 = .ok (.aload_n 0, 1) := by decide +kernel
theorem dL_act_178 : decode cL_act 178 = .ok (.iload_n 1, 1) := by decide +kernel
theorem dL_act_179 : decode cL_act 179 = .ok (.bipush 8, 2) := by decide +kernel
theorem dL_act_181 : decode cL_act 181 = .ok (.ishr, 1) := by decide +kernel
theorem dL_act_182 : decode cL_act 182 = .ok (.bipush 8, 2) := by decide +kernel
theorem dL_act_184 : decode cL_act 184 = .ok (.invokestatic 9, 3) := by decide +kernel
theorem dL_act_187 : decode cL_act 187 = .ok (.iconst 1, 1) := by decide +kernel
theorem dL_act_188 : decode cL_act 188 = .ok (.isub, 1) := by decide +kernel
theorem dL_act_189 : decode cL_act 189 = .ok (.invokevirtual 33, 3) := by decide +kernel
theorem dL_act_192 : decode cL_act 192 = .ok (.ireturn, 1) := by decide +kernel
theorem dL_act_193 : decode cL_act 193 = .ok (.aload_n 0, 1) := by decide +kernel
theorem dL_act_194 : decode cL_act 194 = .ok (.iconst 2, 1) := by decide +kernel
theorem dL_act_195 : decode cL_act 195 = .ok (.iload_n 1, 1) := by decide +kernel
theorem dL_act_196 : decode cL_act 196 = .ok (.bipush 19, 2) := by decide +kernel
theorem dL_act_198 : decode cL_act 198 = .ok (.ishr, 1) := by decide +kernel
theorem dL_act_199 : decode cL_act 199 = .ok (.iconst 3, 1) := by decide +kernel
theorem dL_act_200 : decode cL_act 200 = .ok (.iand, 1) := by decide +kernel
theorem dL_act_201 : decode cL_act 201 = .ok (.iadd, 1) := by decide +kernel
theorem dL_act_202 : decode cL_act 202 = .ok (.iload_n 3, 1) := by decide +kernel
theorem dL_act_203 : decode cL_act 203 = .ok (.iload 4, 2) := by decide +kernel
theorem dL_act_205 : decode cL_act 205 = .ok (.invokevirtual 36, 3) := by decide +kernel
theorem dL_act_208 : decode cL_act 208 = .ok (.ireturn, 1) := by decide +kernel
theorem dL_act_209 : decode cL_act 209 = .ok (.aload_n 0, 1) := by decide +kernel
theorem dL_act_210 : decode cL_act 210 = .ok (.iload_n 3, 1) := by decide +kernel
theorem dL_act_211 : decode cL_act 211 = .ok (.iload 4, 2) := by decide +kernel
theorem dL_act_213 : decode cL_act 213 = .ok (.invokevirtual 40, 3) := by decide +kernel
theorem dL_act_216 : decode cL_act 216 = .ok (.ireturn, 1) := by decide +kernel
theorem dL_act_217 : decode cL_act 217 = .ok (.aload_n 0, 1) := by decide +kernel
theorem dL_act_218 : decode cL_act 218 = .ok (.iload_n 3, 1) := by decide +kernel
theorem dL_act_219 : decode cL_act 219 = .ok (.invokevirtual 43, 3) := by decide +kernel
theorem dL_act_222 : decode cL_act 222 = .ok (.ireturn, 1) := by decide +kernel
theorem dL_act_223 : decode cL_act 223 = .ok (.aload_n 0, 1) := by decide +kernel
theorem dL_act_224 : decode cL_act 224 = .ok (.invokevirtual 46, 3) := by decide +kernel
theorem dL_act_227 : decode cL_act 227 = .ok (.ireturn, 1) := by decide +kernel
theorem dL_act_228 : decode cL_act 228 = .ok (.aload_n 0, 1) := by decide +kernel
theorem dL_act_229 : decode cL_act 229 = .ok (.iload_n 2, 1) := by decide +kernel
theorem dL_act_230 : decode cL_act 230 = .ok (.iload_n 3, 1) := by decide +kernel
theorem dL_act_231 : decode cL_act 231 = .ok (.invokevirtual 49, 3) := by decide +kernel
theorem dL_act_234 : decode cL_act 234 = .ok (.sipush 1000, 3) := by decide +kernel
theorem dL_act_237 : decode cL_act 237 = .ok (.aload_n 0, 1) := by decide +kernel
theorem dL_act_238 : decode cL_act 238 = .ok (.iload_n 2, 1) := by decide +kernel
theorem dL_act_239 : decode cL_act 239 = .ok (.iload_n 3, 1) := by decide +kernel
theorem dL_act_240 : decode cL_act 240 = .ok (.invokevirtual 52, 3) := by decide +kernel
theorem dL_act_243 : decode cL_act 243 = .ok (.imul, 1) := by decide +kernel
theorem dL_act_244 : decode cL_act 244 = .ok (.iadd, 1) := by decide +kernel
theorem dL_act_245 : decode cL_act 245 = .ok (.ireturn, 1) := by decide +kernel
theorem dL_asked_0 : decode cL_asked 0 = .ok (.iload_n 1, 1) := by decide +kernel
theorem dL_asked_1 : decode cL_asked 1 = .ok (.bipush 40, 2) := by decide +kernel
theorem dL_asked_3 : decode cL_asked 3 = .ok (.invokestatic 9, 3) := by decide +kernel
theorem dL_asked_6 : decode cL_asked 6 = .ok (.istore_n 2, 1) := by decide +kernel
theorem dL_asked_7 : decode cL_asked 7 = .ok (.aload_n 0, 1) := by decide +kernel
theorem dL_asked_8 : decode cL_asked 8 = .ok (.iload_n 2, 1) := by decide +kernel
theorem dL_asked_9 : decode cL_asked 9 = .ok (.invokevirtual 55, 3) := by decide +kernel
theorem dL_asked_12 : decode cL_asked 12 = .ok (.istore_n 3, 1) := by decide +kernel
theorem dL_asked_13 : decode cL_asked 13 = .ok (.iload_n 2, 1) := by decide +kernel
theorem dL_asked_14 : decode cL_asked 14 = .ok (.aload_n 0, 1) := by decide +kernel
theorem dL_asked_15 : decode cL_asked 15 = .ok (.iconst 4, 1) := by decide +kernel
theorem dL_asked_16 : decode cL_asked 16 = .ok (.invokevirtual 58, 3) := by decide +kernel
theorem dL_asked_19 : decode cL_asked 19 = .ok (.if_icmp .ge 7, 3) := by decide +kernel
theorem dL_asked_22 : decode cL_asked 22 = .ok (.iconst 1, 1) := by decide +kernel
theorem dL_asked_23 : decode cL_asked 23 = .ok (.goto 4, 3) := by decide +kernel
theorem dL_asked_26 : decode cL_asked 26 = .ok (.iconst 0, 1) := by decide +kernel
theorem dL_asked_27 : decode cL_asked 27 = .ok (.istore 4, 2) := by decide +kernel
theorem dL_asked_29 : decode cL_asked 29 = .ok (.iload 4, 2) := by decide +kernel
theorem dL_asked_31 : decode cL_asked 31 = .ok (.iload_n 3, 1) := by decide +kernel
theorem dL_asked_32 : decode cL_asked 32 = .ok (.ifCond .lt 7, 3) := by decide +kernel
theorem dL_asked_35 : decode cL_asked 35 = .ok (.iconst 1, 1) := by decide +kernel
theorem dL_asked_36 : decode cL_asked 36 = .ok (.goto 4, 3) := by decide +kernel
theorem dL_asked_39 : decode cL_asked 39 = .ok (.iconst 0, 1) := by decide +kernel
theorem dL_asked_40 : decode cL_asked 40 = .ok (.if_icmp .ne 67, 3) := by decide +kernel
theorem dL_asked_43 : decode cL_asked 43 = .ok (.iload 4, 2) := by decide +kernel
theorem dL_asked_45 : decode cL_asked 45 = .ok (.ifCond .eq 58, 3) := by decide +kernel
theorem dL_asked_48 : decode cL_asked 48 = .ok (.aload_n 0, 1) := by decide +kernel
theorem dL_asked_49 : decode cL_asked 49 = .ok (.iload_n 2, 1) := by decide +kernel
theorem dL_asked_50 : decode cL_asked 50 = .ok (.iconst 1, 1) := by decide +kernel
theorem dL_asked_51 : decode cL_asked 51 = .ok (.invokevirtual 61, 3) := by decide +kernel
theorem dL_asked_54 : decode cL_asked 54 = .ok (.aload_n 0, 1) := by decide +kernel
theorem dL_asked_55 : decode cL_asked 55 = .ok (.iload_n 2, 1) := by decide +kernel
theorem dL_asked_56 : decode cL_asked 56 = .ok (.iconst 2, 1) := by decide +kernel
theorem dL_asked_57 : decode cL_asked 57 = .ok (.invokevirtual 61, 3) := by decide +kernel
theorem dL_asked_60 : decode cL_asked 60 = .ok (.if_icmp .gt 47, 3) := by decide +kernel
theorem dL_asked_63 : decode cL_asked 63 = .ok (.aload_n 0, 1) := by decide +kernel
theorem dL_asked_64 : decode cL_asked 64 = .ok (.iload_n 2, 1) := by decide +kernel
theorem dL_asked_65 : decode cL_asked 65 = .ok (.iconst 1, 1) := by decide +kernel
theorem dL_asked_66 : decode cL_asked 66 = .ok (.invokevirtual 61, 3) := by decide +kernel
theorem dL_asked_69 : decode cL_asked 69 = .ok (.ifCond .lt 38, 3) := by decide +kernel
theorem dL_asked_72 : decode cL_asked 72 = .ok (.aload_n 0, 1) := by decide +kernel
theorem dL_asked_73 : decode cL_asked 73 = .ok (.iload_n 2, 1) := by decide +kernel
theorem dL_asked_74 : decode cL_asked 74 = .ok (.iload_n 2, 1) := by decide +kernel
theorem dL_asked_75 : decode cL_asked 75 = .ok (.invokevirtual 64, 3) := by decide +kernel
theorem dL_asked_78 : decode cL_asked 78 = .ok (.iconst 1, 1) := by decide +kernel
theorem dL_asked_79 : decode cL_asked 79 = .ok (.if_icmp .ne 28, 3) := by decide +kernel
theorem dL_asked_82 : decode cL_asked 82 = .ok (.aload_n 0, 1) := by decide +kernel
theorem dL_asked_83 : decode cL_asked 83 = .ok (.iload_n 2, 1) := by decide +kernel
theorem dL_asked_84 : decode cL_asked 84 = .ok (.iconst 3, 1) := by decide +kernel
theorem dL_asked_85 : decode cL_asked 85 = .ok (.invokevirtual 67, 3) := by decide +kernel
theorem dL_asked_88 : decode cL_asked 88 = .ok (.iconst 1, 1) := by decide +kernel
theorem dL_asked_89 : decode cL_asked 89 = .ok (.if_icmp .lt 18, 3) := by decide +kernel
theorem dL_asked_92 : decode cL_asked 92 = .ok (.aload_n 0, 1) := by decide +kernel
theorem dL_asked_93 : decode cL_asked 93 = .ok (.iload_n 2, 1) := by decide +kernel
theorem dL_asked_94 : decode cL_asked 94 = .ok (.iconst 3, 1) := by decide +kernel
theorem dL_asked_95 : decode cL_asked 95 = .ok (.invokevirtual 67, 3) := by decide +kernel
theorem dL_asked_98 : decode cL_asked 98 = .ok (.bipush 60, 2) := by decide +kernel
theorem dL_asked_100 : decode cL_asked 100 = .ok (.if_icmp .gt 7, 3) := by decide +kernel
theorem dL_asked_103 : decode cL_asked 103 = .ok (.iconst 1, 1) := by decide +kernel
theorem dL_asked_104 : decode cL_asked 104 = .ok (.goto 4, 3) := by decide +kernel
theorem dL_asked_107 : decode cL_asked 107 = .ok (.iconst 0, 1) := by decide +kernel
theorem dL_asked_108 : decode cL_asked 108 = .ok (.istore 5, 2) := by decide +kernel
theorem dL_asked_110 : decode cL_asked 110 = .ok (.iload 5, 2) := by decide +kernel
theorem dL_asked_112 : decode cL_asked 112 = .ok (.ifCond .eq 86, 3) := by decide +kernel
theorem dL_asked_115 : decode cL_asked 115 = .ok (.aload_n 0, 1) := by decide +kernel
theorem dL_asked_116 : decode cL_asked 116 = .ok (.iconst 1, 1) := by decide +kernel
theorem dL_asked_117 : decode cL_asked 117 = .ok (.iconst 0, 1) := by decide +kernel
theorem dL_asked_118 : decode cL_asked 118 = .ok (.iconst 0, 1) := by decide +kernel
theorem dL_asked_119 : decode cL_asked 119 = .ok (.invokevirtual 36, 3) := by decide +kernel
theorem dL_asked_122 : decode cL_asked 122 = .ok (.iconst (-1), 1) := by decide +kernel
theorem dL_asked_123 : decode cL_asked 123 = .ok (.if_icmp .ne 75, 3) := by decide +kernel
theorem dL_asked_126 : decode cL_asked 126 = .ok (.aload_n 0, 1) := by decide +kernel
theorem dL_asked_127 : decode cL_asked 127 = .ok (.iconst (-1), 1) := by decide +kernel
theorem dL_asked_128 : decode cL_asked 128 = .ok (.iconst 0, 1) := by decide +kernel
theorem dL_asked_129 : decode cL_asked 129 = .ok (.invokevirtual 40, 3) := by decide +kernel
theorem dL_asked_132 : decode cL_asked 132 = .ok (.iconst (-1), 1) := by decide +kernel
theorem dL_asked_133 : decode cL_asked 133 = .ok (.if_icmp .ne 65, 3) := by decide +kernel
theorem dL_asked_136 : decode cL_asked 136 = .ok (.aload_n 0, 1) := by decide +kernel
theorem dL_asked_137 : decode cL_asked 137 = .ok (.bipush 12, 2) := by decide +kernel
theorem dL_asked_139 : decode cL_asked 139 = .ok (.invokevirtual 33, 3) := by decide +kernel
theorem dL_asked_142 : decode cL_asked 142 = .ok (.iconst (-1), 1) := by decide +kernel
theorem dL_asked_143 : decode cL_asked 143 = .ok (.if_icmp .ne 55, 3) := by decide +kernel
theorem dL_asked_146 : decode cL_asked 146 = .ok (.aload_n 0, 1) := by decide +kernel
theorem dL_asked_147 : decode cL_asked 147 = .ok (.iconst (-1), 1) := by decide +kernel
theorem dL_asked_148 : decode cL_asked 148 = .ok (.iconst 0, 1) := by decide +kernel
theorem dL_asked_149 : decode cL_asked 149 = .ok (.iconst 0, 1) := by decide +kernel
theorem dL_asked_150 : decode cL_asked 150 = .ok (.iconst 0, 1) := by decide +kernel
theorem dL_asked_151 : decode cL_asked 151 = .ok (.iconst 0, 1) := by decide +kernel
theorem dL_asked_152 : decode cL_asked 152 = .ok (.invokevirtual 21, 3) := by decide +kernel
theorem dL_asked_155 : decode cL_asked 155 = .ok (.iconst (-1), 1) := by decide +kernel
theorem dL_asked_156 : decode cL_asked 156 = .ok (.if_icmp .ne 42, 3) := by decide +kernel
theorem dL_asked_159 : decode cL_asked 159 = .ok (.aload_n 0, 1) := by decide +kernel
theorem dL_asked_160 : decode cL_asked 160 = .ok (.bipush 24, 2) := by decide +kernel
theorem dL_asked_162 : decode cL_asked 162 = .ok (.iconst 1, 1) := by decide +kernel
theorem dL_asked_163 : decode cL_asked 163 = .ok (.invokevirtual 29, 3) := by decide +kernel
theorem dL_asked_166 : decode cL_asked 166 = .ok (.iconst (-1), 1) := by decide +kernel
theorem dL_asked_167 : decode cL_asked 167 = .ok (.if_icmp .ne 31, 3) := by decide +kernel
theorem dL_asked_170 : decode cL_asked 170 = .ok (.aload_n 0, 1) := by decide +kernel
theorem dL_asked_171 : decode cL_asked 171 = .ok (.iconst 0, 1) := by decide +kernel
theorem dL_asked_172 : decode cL_asked 172 = .ok (.bipush 12, 2) := by decide +kernel
theorem dL_asked_174 : decode cL_asked 174 = .ok (.invokevirtual 70, 3) := by decide +kernel
theorem dL_asked_177 : decode cL_asked 177 = .ok (.iconst (-1), 1) := by decide +kernel
theorem dL_asked_178 : decode cL_asked 178 = .ok (.if_icmp .ne 20, 3) := by decide +kernel
theorem dL_asked_181 : decode cL_asked 181 = .ok (.aload_n 0, 1) := by decide +kernel
theorem dL_asked_182 : decode cL_asked 182 = .ok (.bipush 24, 2) := by decide +kernel
theorem dL_asked_184 : decode cL_asked 184 = .ok (.iconst 0, 1) := by decide +kernel
theorem dL_asked_185 : decode cL_asked 185 = .ok (.iconst 0, 1) := by decide +kernel
theorem dL_asked_186 : decode cL_asked 186 = .ok (.invokevirtual 73, 3) := by decide +kernel
theorem dL_asked_189 : decode cL_asked 189 = .ok (.bipush (-9), 2) := by decide +kernel
theorem dL_asked_191 : decode cL_asked 191 = .ok (.if_icmp .ne 7, 3) := by decide +kernel
theorem dL_asked_194 : decode cL_asked 194 = .ok (.iconst 1, 1) := by decide +kernel
theorem dL_asked_195 : decode cL_asked 195 = .ok (.goto 4, 3) := by decide +kernel
theorem dL_asked_198 : decode cL_asked 198 = .ok (.iconst 0, 1) := by decide +kernel
theorem dL_asked_199 : decode cL_asked 199 = .ok (.ireturn, 1) := by decide +kernel
theorem dL_law_0 : decode cL_law 0 = .ok (.new 16, 3) := by decide +kernel
theorem dL_law_3 : decode cL_law 3 = .ok (.dup, 1) := by decide +kernel
theorem dL_law_4 : decode cL_law 4 = .ok (.invokespecial 76, 3) := by decide +kernel
theorem dL_law_7 : decode cL_law 7 = .ok (.astore_n 1, 1) := by decide +kernel
theorem dL_law_8 : decode cL_law 8 = .ok (.new 16, 3) := by decide +kernel
theorem dL_law_11 : decode cL_law 11 = .ok (.dup, 1) := by decide +kernel
theorem dL_law_12 : decode cL_law 12 = .ok (.invokespecial 76, 3) := by decide +kernel
theorem dL_law_15 : decode cL_law 15 = .ok (.astore_n 2, 1) := by decide +kernel
theorem dL_law_16 : decode cL_law 16 = .ok (.iconst 0, 1) := by decide +kernel
theorem dL_law_17 : decode cL_law 17 = .ok (.istore_n 3, 1) := by decide +kernel
theorem dL_law_18 : decode cL_law 18 = .ok (.iload_n 3, 1) := by decide +kernel
theorem dL_law_19 : decode cL_law 19 = .ok (.bipush 60, 2) := by decide +kernel
theorem dL_law_21 : decode cL_law 21 = .ok (.if_icmp .ge 215, 3) := by decide +kernel
theorem dL_law_24 : decode cL_law 24 = .ok (.aload_n 0, 1) := by decide +kernel
theorem dL_law_25 : decode cL_law 25 = .ok (.iload_n 3, 1) := by decide +kernel
theorem dL_law_26 : decode cL_law 26 = .ok (.invokestatic 77, 3) := by decide +kernel
theorem dL_law_29 : decode cL_law 29 = .ok (.istore 4, 2) := by decide +kernel
theorem dL_law_31 : decode cL_law 31 = .ok (.aload_n 2, 1) := by decide +kernel
theorem dL_law_32 : decode cL_law 32 = .ok (.iload 4, 2) := by decide +kernel
theorem dL_law_34 : decode cL_law 34 = .ok (.bipush 6, 2) := by decide +kernel
theorem dL_law_36 : decode cL_law 36 = .ok (.ishr, 1) := by decide +kernel
theorem dL_law_37 : decode cL_law 37 = .ok (.invokestatic 81, 3) := by decide +kernel
theorem dL_law_40 : decode cL_law 40 = .ok (.ifCond .eq 18, 3) := by decide +kernel
theorem dL_law_43 : decode cL_law 43 = .ok (.aload_n 1, 1) := by decide +kernel
theorem dL_law_44 : decode cL_law 44 = .ok (.iload 4, 2) := by decide +kernel
theorem dL_law_46 : decode cL_law 46 = .ok (.invokestatic 85, 3) := by decide +kernel
theorem dL_law_49 : decode cL_law 49 = .ok (.aload_n 2, 1) := by decide +kernel
theorem dL_law_50 : decode cL_law 50 = .ok (.iload 4, 2) := by decide +kernel
theorem dL_law_52 : decode cL_law 52 = .ok (.invokestatic 85, 3) := by decide +kernel
theorem dL_law_55 : decode cL_law 55 = .ok (.if_icmp .eq 5, 3) := by decide +kernel
theorem dL_law_58 : decode cL_law 58 = .ok (.iconst 0, 1) := by decide +kernel
theorem dL_law_59 : decode cL_law 59 = .ok (.ireturn, 1) := by decide +kernel
theorem dL_law_60 : decode cL_law 60 = .ok (.iconst 0, 1) := by decide +kernel
theorem dL_law_61 : decode cL_law 61 = .ok (.istore 5, 2) := by decide +kernel
theorem dL_law_63 : decode cL_law 63 = .ok (.iload 5, 2) := by decide +kernel
theorem dL_law_65 : decode cL_law 65 = .ok (.bipush 6, 2) := by decide +kernel
theorem dL_law_67 : decode cL_law 67 = .ok (.if_icmp .ge 26, 3) := by decide +kernel
theorem dL_law_70 : decode cL_law 70 = .ok (.aload_n 1, 1) := by decide +kernel
theorem dL_law_71 : decode cL_law 71 = .ok (.iload 5, 2) := by decide +kernel
theorem dL_law_73 : decode cL_law 73 = .ok (.invokevirtual 58, 3) := by decide +kernel
theorem dL_law_76 : decode cL_law 76 = .ok (.aload_n 2, 1) := by decide +kernel
theorem dL_law_77 : decode cL_law 77 = .ok (.iload 5, 2) := by decide +kernel
theorem dL_law_79 : decode cL_law 79 = .ok (.invokevirtual 58, 3) := by decide +kernel
theorem dL_law_82 : decode cL_law 82 = .ok (.if_icmp .eq 5, 3) := by decide +kernel
theorem dL_law_85 : decode cL_law 85 = .ok (.iconst 0, 1) := by decide +kernel
theorem dL_law_86 : decode cL_law 86 = .ok (.ireturn, 1) := by decide +kernel
theorem dL_law_87 : decode cL_law 87 = .ok (.iinc 5 1, 3) := by decide +kernel
theorem dL_law_90 : decode cL_law 90 = .ok (.goto (-27), 3) := by decide +kernel
theorem dL_law_93 : decode cL_law 93 = .ok (.iload 4, 2) := by decide +kernel
theorem dL_law_95 : decode cL_law 95 = .ok (.iconst 4, 1) := by decide +kernel
theorem dL_law_96 : decode cL_law 96 = .ok (.ishr, 1) := by decide +kernel
theorem dL_law_97 : decode cL_law 97 = .ok (.bipush 6, 2) := by decide +kernel
theorem dL_law_99 : decode cL_law 99 = .ok (.invokestatic 9, 3) := by decide +kernel
theorem dL_law_102 : decode cL_law 102 = .ok (.istore 5, 2) := by decide +kernel
theorem dL_law_104 : decode cL_law 104 = .ok (.iload 4, 2) := by decide +kernel
theorem dL_law_106 : decode cL_law 106 = .ok (.bipush 7, 2) := by decide +kernel
theorem dL_law_108 : decode cL_law 108 = .ok (.ishr, 1) := by decide +kernel
theorem dL_law_109 : decode cL_law 109 = .ok (.bipush 40, 2) := by decide +kernel
theorem dL_law_111 : decode cL_law 111 = .ok (.invokestatic 9, 3) := by decide +kernel
theorem dL_law_114 : decode cL_law 114 = .ok (.istore 6, 2) := by decide +kernel
theorem dL_law_116 : decode cL_law 116 = .ok (.aload_n 1, 1) := by decide +kernel
theorem dL_law_117 : decode cL_law 117 = .ok (.iload 5, 2) := by decide +kernel
theorem dL_law_119 : decode cL_law 119 = .ok (.iload 6, 2) := by decide +kernel
theorem dL_law_121 : decode cL_law 121 = .ok (.invokevirtual 49, 3) := by decide +kernel
theorem dL_law_124 : decode cL_law 124 = .ok (.istore 7, 2) := by decide +kernel
theorem dL_law_126 : decode cL_law 126 = .ok (.iload 7, 2) := by decide +kernel
theorem dL_law_128 : decode cL_law 128 = .ok (.aload_n 2, 1) := by decide +kernel
theorem dL_law_129 : decode cL_law 129 = .ok (.iload 5, 2) := by decide +kernel
theorem dL_law_131 : decode cL_law 131 = .ok (.iload 6, 2) := by decide +kernel
theorem dL_law_133 : decode cL_law 133 = .ok (.invokevirtual 49, 3) := by decide +kernel
theorem dL_law_136 : decode cL_law 136 = .ok (.if_icmp .eq 5, 3) := by decide +kernel
theorem dL_law_139 : decode cL_law 139 = .ok (.iconst 0, 1) := by decide +kernel
theorem dL_law_140 : decode cL_law 140 = .ok (.ireturn, 1) := by decide +kernel
theorem dL_law_141 : decode cL_law 141 = .ok (.iload 7, 2) := by decide +kernel
theorem dL_law_143 : decode cL_law 143 = .ok (.ifCond .lt 87, 3) := by decide +kernel
theorem dL_law_146 : decode cL_law 146 = .ok (.aload_n 1, 1) := by decide +kernel
theorem dL_law_147 : decode cL_law 147 = .ok (.iload 5, 2) := by decide +kernel
theorem dL_law_149 : decode cL_law 149 = .ok (.iload 6, 2) := by decide +kernel
theorem dL_law_151 : decode cL_law 151 = .ok (.invokevirtual 52, 3) := by decide +kernel
theorem dL_law_154 : decode cL_law 154 = .ok (.istore 8, 2) := by decide +kernel
theorem dL_law_156 : decode cL_law 156 = .ok (.iconst 0, 1) := by decide +kernel
theorem dL_law_157 : decode cL_law 157 = .ok (.istore 9, 2) := by decide +kernel
theorem dL_law_159 : decode cL_law 159 = .ok (.iconst 0, 1) := by decide +kernel
theorem dL_law_160 : decode cL_law 160 = .ok (.istore 10, 2) := by decide +kernel
theorem dL_law_162 : decode cL_law 162 = .ok (.iload 10, 2) := by decide +kernel
theorem dL_law_164 : decode cL_law 164 = .ok (.bipush 6, 2) := by decide +kernel
theorem dL_law_166 : decode cL_law 166 = .ok (.if_icmp .ge 21, 3) := by decide +kernel
theorem dL_law_169 : decode cL_law 169 = .ok (.iload 9, 2) := by decide +kernel
theorem dL_law_171 : decode cL_law 171 = .ok (.iload 8, 2) := by decide +kernel
theorem dL_law_173 : decode cL_law 173 = .ok (.iload 10, 2) := by decide +kernel
theorem dL_law_175 : decode cL_law 175 = .ok (.ishr, 1) := by decide +kernel
theorem dL_law_176 : decode cL_law 176 = .ok (.iconst 1, 1) := by decide +kernel
theorem dL_law_177 : decode cL_law 177 = .ok (.iand, 1) := by decide +kernel
theorem dL_law_178 : decode cL_law 178 = .ok (.iadd, 1) := by decide +kernel
theorem dL_law_179 : decode cL_law 179 = .ok (.istore 9, 2) := by decide +kernel
theorem dL_law_181 : decode cL_law 181 = .ok (.iinc 10 1, 3) := by decide +kernel
theorem dL_law_184 : decode cL_law 184 = .ok (.goto (-22), 3) := by decide +kernel
theorem dL_law_187 : decode cL_law 187 = .ok (.aload_n 1, 1) := by decide +kernel
theorem dL_law_188 : decode cL_law 188 = .ok (.iload 5, 2) := by decide +kernel
theorem dL_law_190 : decode cL_law 190 = .ok (.iconst (-1), 1) := by decide +kernel
theorem dL_law_191 : decode cL_law 191 = .ok (.iconst 0, 1) := by decide +kernel
theorem dL_law_192 : decode cL_law 192 = .ok (.invokevirtual 73, 3) := by decide +kernel
theorem dL_law_195 : decode cL_law 195 = .ok (.istore 10, 2) := by decide +kernel
theorem dL_law_197 : decode cL_law 197 = .ok (.iload 7, 2) := by decide +kernel
theorem dL_law_199 : decode cL_law 199 = .ok (.iload 10, 2) := by decide +kernel
theorem dL_law_201 : decode cL_law 201 = .ok (.aload_n 1, 1) := by decide +kernel
theorem dL_law_202 : decode cL_law 202 = .ok (.iload 6, 2) := by decide +kernel
theorem dL_law_204 : decode cL_law 204 = .ok (.invokevirtual 55, 3) := by decide +kernel
theorem dL_law_207 : decode cL_law 207 = .ok (.iadd, 1) := by decide +kernel
theorem dL_law_208 : decode cL_law 208 = .ok (.if_icmp .gt 20, 3) := by decide +kernel
theorem dL_law_211 : decode cL_law 211 = .ok (.iload 7, 2) := by decide +kernel
theorem dL_law_213 : decode cL_law 213 = .ok (.iload 10, 2) := by decide +kernel
theorem dL_law_215 : decode cL_law 215 = .ok (.iload 9, 2) := by decide +kernel
theorem dL_law_217 : decode cL_law 217 = .ok (.isub, 1) := by decide +kernel
theorem dL_law_218 : decode cL_law 218 = .ok (.if_icmp .lt 10, 3) := by decide +kernel
theorem dL_law_221 : decode cL_law 221 = .ok (.iload 9, 2) := by decide +kernel
theorem dL_law_223 : decode cL_law 223 = .ok (.iload 10, 2) := by decide +kernel
theorem dL_law_225 : decode cL_law 225 = .ok (.if_icmp .le 5, 3) := by decide +kernel
theorem dL_law_228 : decode cL_law 228 = .ok (.iconst 0, 1) := by decide +kernel
theorem dL_law_229 : decode cL_law 229 = .ok (.ireturn, 1) := by decide +kernel
theorem dL_law_230 : decode cL_law 230 = .ok (.iinc 3 1, 3) := by decide +kernel
theorem dL_law_233 : decode cL_law 233 = .ok (.goto (-215), 3) := by decide +kernel
theorem dL_law_236 : decode cL_law 236 = .ok (.iconst 1, 1) := by decide +kernel
theorem dL_law_237 : decode cL_law 237 = .ok (.ireturn, 1) := by decide +kernel
