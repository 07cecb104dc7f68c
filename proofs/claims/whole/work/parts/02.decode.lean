theorem dX0_init_0 : decode cX0_init 0 = .ok (.aload_n 0, 1) := by decide +kernel
theorem dX0_init_1 : decode cX0_init 1 = .ok (.invokespecial 3, 3) := by decide +kernel
theorem dX0_init_4 : decode cX0_init 4 = .ok (.aload_n 0, 1) := by decide +kernel
theorem dX0_init_5 : decode cX0_init 5 = .ok (.bipush 24, 2) := by decide +kernel
theorem dX0_init_7 : decode cX0_init 7 = .ok (.newarray .int, 2) := by decide +kernel
theorem dX0_init_9 : decode cX0_init 9 = .ok (.putfield 9, 3) := by decide +kernel
theorem dX0_init_12 : decode cX0_init 12 = .ok (.return_, 1) := by decide +kernel
theorem dX0_put_0 : decode cX0_put 0 = .ok (.aload_n 0, 1) := by decide +kernel
theorem dX0_put_1 : decode cX0_put 1 = .ok (.getfield 15, 3) := by decide +kernel
theorem dX0_put_4 : decode cX0_put 4 = .ok (.bipush 6, 2) := by decide +kernel
theorem dX0_put_6 : decode cX0_put 6 = .ok (.if_icmp .lt 4, 3) := by decide +kernel
theorem dX0_put_9 : decode cX0_put 9 = .ok (.return_, 1) := by decide +kernel
theorem dX0_put_10 : decode cX0_put 10 = .ok (.aload_n 0, 1) := by decide +kernel
theorem dX0_put_11 : decode cX0_put 11 = .ok (.getfield 15, 3) := by decide +kernel
theorem dX0_put_14 : decode cX0_put 14 = .ok (.iconst 4, 1) := by decide +kernel
theorem dX0_put_15 : decode cX0_put 15 = .ok (.imul, 1) := by decide +kernel
theorem dX0_put_16 : decode cX0_put 16 = .ok (.istore 5, 2) := by decide +kernel
theorem dX0_put_18 : decode cX0_put 18 = .ok (.aload_n 0, 1) := by decide +kernel
theorem dX0_put_19 : decode cX0_put 19 = .ok (.getfield 9, 3) := by decide +kernel
theorem dX0_put_22 : decode cX0_put 22 = .ok (.iload 5, 2) := by decide +kernel
theorem dX0_put_24 : decode cX0_put 24 = .ok (.iconst 0, 1) := by decide +kernel
theorem dX0_put_25 : decode cX0_put 25 = .ok (.iadd, 1) := by decide +kernel
theorem dX0_put_26 : decode cX0_put 26 = .ok (.iload_n 1, 1) := by decide +kernel
theorem dX0_put_27 : decode cX0_put 27 = .ok (.iastore, 1) := by decide +kernel
theorem dX0_put_28 : decode cX0_put 28 = .ok (.aload_n 0, 1) := by decide +kernel
theorem dX0_put_29 : decode cX0_put 29 = .ok (.getfield 9, 3) := by decide +kernel
theorem dX0_put_32 : decode cX0_put 32 = .ok (.iload 5, 2) := by decide +kernel
theorem dX0_put_34 : decode cX0_put 34 = .ok (.iconst 1, 1) := by decide +kernel
theorem dX0_put_35 : decode cX0_put 35 = .ok (.iadd, 1) := by decide +kernel
theorem dX0_put_36 : decode cX0_put 36 = .ok (.iload_n 2, 1) := by decide +kernel
theorem dX0_put_37 : decode cX0_put 37 = .ok (.iastore, 1) := by decide +kernel
theorem dX0_put_38 : decode cX0_put 38 = .ok (.aload_n 0, 1) := by decide +kernel
theorem dX0_put_39 : decode cX0_put 39 = .ok (.getfield 9, 3) := by decide +kernel
theorem dX0_put_42 : decode cX0_put 42 = .ok (.iload 5, 2) := by decide +kernel
theorem dX0_put_44 : decode cX0_put 44 = .ok (.iconst 2, 1) := by decide +kernel
theorem dX0_put_45 : decode cX0_put 45 = .ok (.iadd, 1) := by decide +kernel
theorem dX0_put_46 : decode cX0_put 46 = .ok (.iload_n 3, 1) := by decide +kernel
theorem dX0_put_47 : decode cX0_put 47 = .ok (.iastore, 1) := by decide +kernel
theorem dX0_put_48 : decode cX0_put 48 = .ok (.aload_n 0, 1) := by decide +kernel
theorem dX0_put_49 : decode cX0_put 49 = .ok (.getfield 9, 3) := by decide +kernel
theorem dX0_put_52 : decode cX0_put 52 = .ok (.iload 5, 2) := by decide +kernel
theorem dX0_put_54 : decode cX0_put 54 = .ok (.iconst 3, 1) := by decide +kernel
theorem dX0_put_55 : decode cX0_put 55 = .ok (.iadd, 1) := by decide +kernel
theorem dX0_put_56 : decode cX0_put 56 = .ok (.iload 4, 2) := by decide +kernel
theorem dX0_put_58 : decode cX0_put 58 = .ok (.iastore, 1) := by decide +kernel
theorem dX0_put_59 : decode cX0_put 59 = .ok (.aload_n 0, 1) := by decide +kernel
theorem dX0_put_60 : decode cX0_put 60 = .ok (.dup, 1) := by decide +kernel
theorem dX0_put_61 : decode cX0_put 61 = .ok (.getfield 15, 3) := by decide +kernel
theorem dX0_put_64 : decode cX0_put 64 = .ok (.iconst 1, 1) := by decide +kernel
theorem dX0_put_65 : decode cX0_put 65 = .ok (.iadd, 1) := by decide +kernel
theorem dX0_put_66 : decode cX0_put 66 = .ok (.putfield 15, 3) := by decide +kernel
theorem dX0_put_69 : decode cX0_put 69 = .ok (.return_, 1) := by decide +kernel
theorem dX0_tell_0 : decode cX0_tell 0 = .ok (.iload_n 1, 1) := by decide +kernel
theorem dX0_tell_1 : decode cX0_tell 1 = .ok (.iconst 4, 1) := by decide +kernel
theorem dX0_tell_2 : decode cX0_tell 2 = .ok (.imul, 1) := by decide +kernel
theorem dX0_tell_3 : decode cX0_tell 3 = .ok (.iload_n 2, 1) := by decide +kernel
theorem dX0_tell_4 : decode cX0_tell 4 = .ok (.iadd, 1) := by decide +kernel
theorem dX0_tell_5 : decode cX0_tell 5 = .ok (.istore_n 3, 1) := by decide +kernel
theorem dX0_tell_6 : decode cX0_tell 6 = .ok (.iload_n 3, 1) := by decide +kernel
theorem dX0_tell_7 : decode cX0_tell 7 = .ok (.ifCond .lt 21, 3) := by decide +kernel
theorem dX0_tell_10 : decode cX0_tell 10 = .ok (.iload_n 3, 1) := by decide +kernel
theorem dX0_tell_11 : decode cX0_tell 11 = .ok (.aload_n 0, 1) := by decide +kernel
theorem dX0_tell_12 : decode cX0_tell 12 = .ok (.getfield 9, 3) := by decide +kernel
theorem dX0_tell_15 : decode cX0_tell 15 = .ok (.arraylength, 1) := by decide +kernel
theorem dX0_tell_16 : decode cX0_tell 16 = .ok (.if_icmp .ge 12, 3) := by decide +kernel
theorem dX0_tell_19 : decode cX0_tell 19 = .ok (.aload_n 0, 1) := by decide +kernel
theorem dX0_tell_20 : decode cX0_tell 20 = .ok (.getfield 9, 3) := by decide +kernel
theorem dX0_tell_23 : decode cX0_tell 23 = .ok (.iload_n 3, 1) := by decide +kernel
theorem dX0_tell_24 : decode cX0_tell 24 = .ok (.iaload, 1) := by decide +kernel
theorem dX0_tell_25 : decode cX0_tell 25 = .ok (.goto 4, 3) := by decide +kernel
theorem dX0_tell_28 : decode cX0_tell 28 = .ok (.iconst (-1), 1) := by decide +kernel
theorem dX0_tell_29 : decode cX0_tell 29 = .ok (.ireturn, 1) := by decide +kernel
theorem dX0_timesNamed_0 : decode cX0_timesNamed 0 = .ok (.iconst 0, 1) := by decide +kernel
theorem dX0_timesNamed_1 : decode cX0_timesNamed 1 = .ok (.istore_n 2, 1) := by decide +kernel
theorem dX0_timesNamed_2 : decode cX0_timesNamed 2 = .ok (.iconst 0, 1) := by decide +kernel
theorem dX0_timesNamed_3 : decode cX0_timesNamed 3 = .ok (.istore_n 3, 1) := by decide +kernel
theorem dX0_timesNamed_4 : decode cX0_timesNamed 4 = .ok (.iload_n 3, 1) := by decide +kernel
theorem dX0_timesNamed_5 : decode cX0_timesNamed 5 = .ok (.aload_n 0, 1) := by decide +kernel
theorem dX0_timesNamed_6 : decode cX0_timesNamed 6 = .ok (.getfield 15, 3) := by decide +kernel
theorem dX0_timesNamed_9 : decode cX0_timesNamed 9 = .ok (.if_icmp .ge 22, 3) := by decide +kernel
theorem dX0_timesNamed_12 : decode cX0_timesNamed 12 = .ok (.aload_n 0, 1) := by decide +kernel
theorem dX0_timesNamed_13 : decode cX0_timesNamed 13 = .ok (.iload_n 3, 1) := by decide +kernel
theorem dX0_timesNamed_14 : decode cX0_timesNamed 14 = .ok (.iconst 0, 1) := by decide +kernel
theorem dX0_timesNamed_15 : decode cX0_timesNamed 15 = .ok (.invokevirtual 19, 3) := by decide +kernel
theorem dX0_timesNamed_18 : decode cX0_timesNamed 18 = .ok (.iload_n 1, 1) := by decide +kernel
theorem dX0_timesNamed_19 : decode cX0_timesNamed 19 = .ok (.if_icmp .ne 6, 3) := by decide +kernel
theorem dX0_timesNamed_22 : decode cX0_timesNamed 22 = .ok (.iinc 2 1, 3) := by decide +kernel
theorem dX0_timesNamed_25 : decode cX0_timesNamed 25 = .ok (.iinc 3 1, 3) := by decide +kernel
theorem dX0_timesNamed_28 : decode cX0_timesNamed 28 = .ok (.goto (-24), 3) := by decide +kernel
theorem dX0_timesNamed_31 : decode cX0_timesNamed 31 = .ok (.iload_n 2, 1) := by decide +kernel
theorem dX0_timesNamed_32 : decode cX0_timesNamed 32 = .ok (.ireturn, 1) := by decide +kernel
theorem dX0_row_0 : decode cX0_row 0 = .ok (.iconst 0, 1) := by decide +kernel
theorem dX0_row_1 : decode cX0_row 1 = .ok (.istore_n 1, 1) := by decide +kernel
theorem dX0_row_2 : decode cX0_row 2 = .ok (.iconst 0, 1) := by decide +kernel
theorem dX0_row_3 : decode cX0_row 3 = .ok (.istore_n 2, 1) := by decide +kernel
theorem dX0_row_4 : decode cX0_row 4 = .ok (.iload_n 2, 1) := by decide +kernel
theorem dX0_row_5 : decode cX0_row 5 = .ok (.aload_n 0, 1) := by decide +kernel
theorem dX0_row_6 : decode cX0_row 6 = .ok (.getfield 15, 3) := by decide +kernel
theorem dX0_row_9 : decode cX0_row 9 = .ok (.if_icmp .ge 24, 3) := by decide +kernel
theorem dX0_row_12 : decode cX0_row 12 = .ok (.iload_n 1, 1) := by decide +kernel
theorem dX0_row_13 : decode cX0_row 13 = .ok (.aload_n 0, 1) := by decide +kernel
theorem dX0_row_14 : decode cX0_row 14 = .ok (.iload_n 2, 1) := by decide +kernel
theorem dX0_row_15 : decode cX0_row 15 = .ok (.iconst 0, 1) := by decide +kernel
theorem dX0_row_16 : decode cX0_row 16 = .ok (.invokevirtual 19, 3) := by decide +kernel
theorem dX0_row_19 : decode cX0_row 19 = .ok (.iconst 1, 1) := by decide +kernel
theorem dX0_row_20 : decode cX0_row 20 = .ok (.iadd, 1) := by decide +kernel
theorem dX0_row_21 : decode cX0_row 21 = .ok (.iload_n 2, 1) := by decide +kernel
theorem dX0_row_22 : decode cX0_row 22 = .ok (.iconst 4, 1) := by decide +kernel
theorem dX0_row_23 : decode cX0_row 23 = .ok (.imul, 1) := by decide +kernel
theorem dX0_row_24 : decode cX0_row 24 = .ok (.ishl, 1) := by decide +kernel
theorem dX0_row_25 : decode cX0_row 25 = .ok (.ior, 1) := by decide +kernel
theorem dX0_row_26 : decode cX0_row 26 = .ok (.istore_n 1, 1) := by decide +kernel
theorem dX0_row_27 : decode cX0_row 27 = .ok (.iinc 2 1, 3) := by decide +kernel
theorem dX0_row_30 : decode cX0_row 30 = .ok (.goto (-26), 3) := by decide +kernel
theorem dX0_row_33 : decode cX0_row 33 = .ok (.iload_n 1, 1) := by decide +kernel
theorem dX0_row_34 : decode cX0_row 34 = .ok (.ireturn, 1) := by decide +kernel
theorem dX1_init_0 : decode cX1_init 0 = .ok (.aload_n 0, 1) := by decide +kernel
theorem dX1_init_1 : decode cX1_init 1 = .ok (.invokespecial 3, 3) := by decide +kernel
theorem dX1_init_4 : decode cX1_init 4 = .ok (.aload_n 0, 1) := by decide +kernel
theorem dX1_init_5 : decode cX1_init 5 = .ok (.bipush 6, 2) := by decide +kernel
theorem dX1_init_7 : decode cX1_init 7 = .ok (.newarray .int, 2) := by decide +kernel
theorem dX1_init_9 : decode cX1_init 9 = .ok (.putfield 9, 3) := by decide +kernel
theorem dX1_init_12 : decode cX1_init 12 = .ok (.aload_n 0, 1) := by decide +kernel
theorem dX1_init_13 : decode cX1_init 13 = .ok (.bipush 64, 2) := by decide +kernel
theorem dX1_init_15 : decode cX1_init 15 = .ok (.newarray .int, 2) := by decide +kernel
theorem dX1_init_17 : decode cX1_init 17 = .ok (.putfield 15, 3) := by decide +kernel
theorem dX1_init_20 : decode cX1_init 20 = .ok (.aload_n 0, 1) := by decide +kernel
theorem dX1_init_21 : decode cX1_init 21 = .ok (.bipush 64, 2) := by decide +kernel
theorem dX1_init_23 : decode cX1_init 23 = .ok (.newarray .int, 2) := by decide +kernel
theorem dX1_init_25 : decode cX1_init 25 = .ok (.putfield 18, 3) := by decide +kernel
theorem dX1_init_28 : decode cX1_init 28 = .ok (.return_, 1) := by decide +kernel
theorem dX1_lay_0 : decode cX1_lay 0 = .ok (.aload_n 0, 1) := by decide +kernel
theorem dX1_lay_1 : decode cX1_lay 1 = .ok (.aload_n 1, 1) := by decide +kernel
theorem dX1_lay_2 : decode cX1_lay 2 = .ok (.getfield 21, 3) := by decide +kernel
theorem dX1_lay_5 : decode cX1_lay 5 = .ok (.bipush 6, 2) := by decide +kernel
theorem dX1_lay_7 : decode cX1_lay 7 = .ok (.invokestatic 27, 3) := by decide +kernel
theorem dX1_lay_10 : decode cX1_lay 10 = .ok (.putfield 33, 3) := by decide +kernel
theorem dX1_lay_13 : decode cX1_lay 13 = .ok (.aload_n 0, 1) := by decide +kernel
theorem dX1_lay_14 : decode cX1_lay 14 = .ok (.iconst 1, 1) := by decide +kernel
theorem dX1_lay_15 : decode cX1_lay 15 = .ok (.aload_n 0, 1) := by decide +kernel
theorem dX1_lay_16 : decode cX1_lay 16 = .ok (.getfield 33, 3) := by decide +kernel
theorem dX1_lay_19 : decode cX1_lay 19 = .ok (.ishl, 1) := by decide +kernel
theorem dX1_lay_20 : decode cX1_lay 20 = .ok (.putfield 34, 3) := by decide +kernel
theorem dX1_lay_23 : decode cX1_lay 23 = .ok (.iconst 0, 1) := by decide +kernel
theorem dX1_lay_24 : decode cX1_lay 24 = .ok (.istore_n 3, 1) := by decide +kernel
theorem dX1_lay_25 : decode cX1_lay 25 = .ok (.iload_n 3, 1) := by decide +kernel
theorem dX1_lay_26 : decode cX1_lay 26 = .ok (.aload_n 0, 1) := by decide +kernel
theorem dX1_lay_27 : decode cX1_lay 27 = .ok (.getfield 33, 3) := by decide +kernel
theorem dX1_lay_30 : decode cX1_lay 30 = .ok (.if_icmp .ge 21, 3) := by decide +kernel
theorem dX1_lay_33 : decode cX1_lay 33 = .ok (.aload_n 0, 1) := by decide +kernel
theorem dX1_lay_34 : decode cX1_lay 34 = .ok (.getfield 9, 3) := by decide +kernel
theorem dX1_lay_37 : decode cX1_lay 37 = .ok (.iload_n 3, 1) := by decide +kernel
theorem dX1_lay_38 : decode cX1_lay 38 = .ok (.aload_n 1, 1) := by decide +kernel
theorem dX1_lay_39 : decode cX1_lay 39 = .ok (.iload_n 3, 1) := by decide +kernel
theorem dX1_lay_40 : decode cX1_lay 40 = .ok (.iconst 0, 1) := by decide +kernel
theorem dX1_lay_41 : decode cX1_lay 41 = .ok (.invokevirtual 37, 3) := by decide +kernel
theorem dX1_lay_44 : decode cX1_lay 44 = .ok (.iastore, 1) := by decide +kernel
theorem dX1_lay_45 : decode cX1_lay 45 = .ok (.iinc 3 1, 3) := by decide +kernel
theorem dX1_lay_48 : decode cX1_lay 48 = .ok (.goto (-23), 3) := by decide +kernel
theorem dX1_lay_51 : decode cX1_lay 51 = .ok (.aload_n 0, 1) := by decide +kernel
theorem dX1_lay_52 : decode cX1_lay 52 = .ok (.aload_n 2, 1) := by decide +kernel
theorem dX1_lay_53 : decode cX1_lay 53 = .ok (.iconst 0, 1) := by decide +kernel
theorem dX1_lay_54 : decode cX1_lay 54 = .ok (.invokestatic 40, 3) := by decide +kernel
theorem dX1_lay_57 : decode cX1_lay 57 = .ok (.aload_n 0, 1) := by decide +kernel
theorem dX1_lay_58 : decode cX1_lay 58 = .ok (.aload_n 2, 1) := by decide +kernel
theorem dX1_lay_59 : decode cX1_lay 59 = .ok (.invokestatic 44, 3) := by decide +kernel
theorem dX1_lay_62 : decode cX1_lay 62 = .ok (.invokevirtual 48, 3) := by decide +kernel
theorem dX1_lay_65 : decode cX1_lay 65 = .ok (.return_, 1) := by decide +kernel
theorem dX1_choose_0 : decode cX1_choose 0 = .ok (.aload_n 0, 1) := by decide +kernel
theorem dX1_choose_1 : decode cX1_choose 1 = .ok (.ldc 52, 2) := by decide +kernel
theorem dX1_choose_3 : decode cX1_choose 3 = .ok (.putfield 53, 3) := by decide +kernel
theorem dX1_choose_6 : decode cX1_choose 6 = .ok (.aload_n 0, 1) := by decide +kernel
theorem dX1_choose_7 : decode cX1_choose 7 = .ok (.iconst 0, 1) := by decide +kernel
theorem dX1_choose_8 : decode cX1_choose 8 = .ok (.putfield 56, 3) := by decide +kernel
theorem dX1_choose_11 : decode cX1_choose 11 = .ok (.iconst 0, 1) := by decide +kernel
theorem dX1_choose_12 : decode cX1_choose 12 = .ok (.istore_n 2, 1) := by decide +kernel
theorem dX1_choose_13 : decode cX1_choose 13 = .ok (.iload_n 2, 1) := by decide +kernel
theorem dX1_choose_14 : decode cX1_choose 14 = .ok (.aload_n 0, 1) := by decide +kernel
theorem dX1_choose_15 : decode cX1_choose 15 = .ok (.getfield 34, 3) := by decide +kernel
theorem dX1_choose_18 : decode cX1_choose 18 = .ok (.if_icmp .ge 65, 3) := by decide +kernel
theorem dX1_choose_21 : decode cX1_choose 21 = .ok (.aload_n 0, 1) := by decide +kernel
theorem dX1_choose_22 : decode cX1_choose 22 = .ok (.getfield 33, 3) := by decide +kernel
theorem dX1_choose_25 : decode cX1_choose 25 = .ok (.iload_n 2, 1) := by decide +kernel
theorem dX1_choose_26 : decode cX1_choose 26 = .ok (.invokestatic 59, 3) := by decide +kernel
theorem dX1_choose_29 : decode cX1_choose 29 = .ok (.isub, 1) := by decide +kernel
theorem dX1_choose_30 : decode cX1_choose 30 = .ok (.aload_n 1, 1) := by decide +kernel
theorem dX1_choose_31 : decode cX1_choose 31 = .ok (.iload_n 2, 1) := by decide +kernel
theorem dX1_choose_32 : decode cX1_choose 32 = .ok (.iaload, 1) := by decide +kernel
theorem dX1_choose_33 : decode cX1_choose 33 = .ok (.iadd, 1) := by decide +kernel
theorem dX1_choose_34 : decode cX1_choose 34 = .ok (.istore_n 3, 1) := by decide +kernel
theorem dX1_choose_35 : decode cX1_choose 35 = .ok (.iload_n 2, 1) := by decide +kernel
theorem dX1_choose_36 : decode cX1_choose 36 = .ok (.invokestatic 65, 3) := by decide +kernel
theorem dX1_choose_39 : decode cX1_choose 39 = .ok (.istore 4, 2) := by decide +kernel
theorem dX1_choose_41 : decode cX1_choose 41 = .ok (.iload_n 3, 1) := by decide +kernel
theorem dX1_choose_42 : decode cX1_choose 42 = .ok (.aload_n 0, 1) := by decide +kernel
theorem dX1_choose_43 : decode cX1_choose 43 = .ok (.getfield 53, 3) := by decide +kernel
theorem dX1_choose_46 : decode cX1_choose 46 = .ok (.if_icmp .lt 20, 3) := by decide +kernel
theorem dX1_choose_49 : decode cX1_choose 49 = .ok (.iload_n 3, 1) := by decide +kernel
theorem dX1_choose_50 : decode cX1_choose 50 = .ok (.aload_n 0, 1) := by decide +kernel
theorem dX1_choose_51 : decode cX1_choose 51 = .ok (.getfield 53, 3) := by decide +kernel
theorem dX1_choose_54 : decode cX1_choose 54 = .ok (.if_icmp .ne 23, 3) := by decide +kernel
theorem dX1_choose_57 : decode cX1_choose 57 = .ok (.iload 4, 2) := by decide +kernel
theorem dX1_choose_59 : decode cX1_choose 59 = .ok (.aload_n 0, 1) := by decide +kernel
theorem dX1_choose_60 : decode cX1_choose 60 = .ok (.getfield 56, 3) := by decide +kernel
theorem dX1_choose_63 : decode cX1_choose 63 = .ok (.if_icmp .le 14, 3) := by decide +kernel
theorem dX1_choose_66 : decode cX1_choose 66 = .ok (.aload_n 0, 1) := by decide +kernel
theorem dX1_choose_67 : decode cX1_choose 67 = .ok (.iload_n 3, 1) := by decide +kernel
theorem dX1_choose_68 : decode cX1_choose 68 = .ok (.putfield 53, 3) := by decide +kernel
theorem dX1_choose_71 : decode cX1_choose 71 = .ok (.aload_n 0, 1) := by decide +kernel
theorem dX1_choose_72 : decode cX1_choose 72 = .ok (.iload 4, 2) := by decide +kernel
theorem dX1_choose_74 : decode cX1_choose 74 = .ok (.putfield 56, 3) := by decide +kernel
theorem dX1_choose_77 : decode cX1_choose 77 = .ok (.iinc 2 1, 3) := by decide +kernel
theorem dX1_choose_80 : decode cX1_choose 80 = .ok (.goto (-67), 3) := by decide +kernel
theorem dX1_choose_83 : decode cX1_choose 83 = .ok (.return_, 1) := by decide +kernel
theorem dX1_numberOf_0 : decode cX1_numberOf 0 = .ok (.iconst 0, 1) := by decide +kernel
theorem dX1_numberOf_1 : decode cX1_numberOf 1 = .ok (.istore_n 1, 1) := by decide +kernel
theorem dX1_numberOf_2 : decode cX1_numberOf 2 = .ok (.iconst 0, 1) := by decide +kernel
theorem dX1_numberOf_3 : decode cX1_numberOf 3 = .ok (.istore_n 2, 1) := by decide +kernel
theorem dX1_numberOf_4 : decode cX1_numberOf 4 = .ok (.iload_n 2, 1) := by decide +kernel
theorem dX1_numberOf_5 : decode cX1_numberOf 5 = .ok (.bipush 6, 2) := by decide +kernel
theorem dX1_numberOf_7 : decode cX1_numberOf 7 = .ok (.if_icmp .ge 24, 3) := by decide +kernel
theorem dX1_numberOf_10 : decode cX1_numberOf 10 = .ok (.iload_n 0, 1) := by decide +kernel
theorem dX1_numberOf_11 : decode cX1_numberOf 11 = .ok (.iconst 1, 1) := by decide +kernel
theorem dX1_numberOf_12 : decode cX1_numberOf 12 = .ok (.iload_n 2, 1) := by decide +kernel
theorem dX1_numberOf_13 : decode cX1_numberOf 13 = .ok (.ishl, 1) := by decide +kernel
theorem dX1_numberOf_14 : decode cX1_numberOf 14 = .ok (.iand, 1) := by decide +kernel
theorem dX1_numberOf_15 : decode cX1_numberOf 15 = .ok (.ifCond .eq 10, 3) := by decide +kernel
theorem dX1_numberOf_18 : decode cX1_numberOf 18 = .ok (.iload_n 1, 1) := by decide +kernel
theorem dX1_numberOf_19 : decode cX1_numberOf 19 = .ok (.bipush 32, 2) := by decide +kernel
theorem dX1_numberOf_21 : decode cX1_numberOf 21 = .ok (.iload_n 2, 1) := by decide +kernel
theorem dX1_numberOf_22 : decode cX1_numberOf 22 = .ok (.ishr, 1) := by decide +kernel
theorem dX1_numberOf_23 : decode cX1_numberOf 23 = .ok (.iadd, 1) := by decide +kernel
theorem dX1_numberOf_24 : decode cX1_numberOf 24 = .ok (.istore_n 1, 1) := by decide +kernel
theorem dX1_numberOf_25 : decode cX1_numberOf 25 = .ok (.iinc 2 1, 3) := by decide +kernel
theorem dX1_numberOf_28 : decode cX1_numberOf 28 = .ok (.goto (-24), 3) := by decide +kernel
theorem dX1_numberOf_31 : decode cX1_numberOf 31 = .ok (.iload_n 1, 1) := by decide +kernel
theorem dX1_numberOf_32 : decode cX1_numberOf 32 = .ok (.ireturn, 1) := by decide +kernel
theorem dX1_costsOf_0 : decode cX1_costsOf 0 = .ok (.aload_n 0, 1) := by decide +kernel
theorem dX1_costsOf_1 : decode cX1_costsOf 1 = .ok (.getfield 68, 3) := by decide +kernel
theorem dX1_costsOf_4 : decode cX1_costsOf 4 = .ok (.ifnonnull 11, 3) := by decide +kernel
theorem dX1_costsOf_7 : decode cX1_costsOf 7 = .ok (.aload_n 0, 1) := by decide +kernel
theorem dX1_costsOf_8 : decode cX1_costsOf 8 = .ok (.bipush 64, 2) := by decide +kernel
theorem dX1_costsOf_10 : decode cX1_costsOf 10 = .ok (.newarray .int, 2) := by decide +kernel
theorem dX1_costsOf_12 : decode cX1_costsOf 12 = .ok (.putfield 68, 3) := by decide +kernel
theorem dX1_costsOf_15 : decode cX1_costsOf 15 = .ok (.aload_n 0, 1) := by decide +kernel
theorem dX1_costsOf_16 : decode cX1_costsOf 16 = .ok (.getfield 68, 3) := by decide +kernel
theorem dX1_costsOf_19 : decode cX1_costsOf 19 = .ok (.areturn, 1) := by decide +kernel
theorem dX1_weigh_0 : decode cX1_weigh 0 = .ok (.aload_n 1, 1) := by decide +kernel
theorem dX1_weigh_1 : decode cX1_weigh 1 = .ok (.getfield 73, 3) := by decide +kernel
theorem dX1_weigh_4 : decode cX1_weigh 4 = .ok (.arraylength, 1) := by decide +kernel
theorem dX1_weigh_5 : decode cX1_weigh 5 = .ok (.ifCond .eq 9, 3) := by decide +kernel
theorem dX1_weigh_8 : decode cX1_weigh 8 = .ok (.iload_n 2, 1) := by decide +kernel
theorem dX1_weigh_9 : decode cX1_weigh 9 = .ok (.bipush 40, 2) := by decide +kernel
theorem dX1_weigh_11 : decode cX1_weigh 11 = .ok (.if_icmp .le 13, 3) := by decide +kernel
theorem dX1_weigh_14 : decode cX1_weigh 14 = .ok (.aload_n 0, 1) := by decide +kernel
theorem dX1_weigh_15 : decode cX1_weigh 15 = .ok (.aload_n 1, 1) := by decide +kernel
theorem dX1_weigh_16 : decode cX1_weigh 16 = .ok (.invokestatic 44, 3) := by decide +kernel
theorem dX1_weigh_19 : decode cX1_weigh 19 = .ok (.aload_n 1, 1) := by decide +kernel
theorem dX1_weigh_20 : decode cX1_weigh 20 = .ok (.invokevirtual 77, 3) := by decide +kernel
theorem dX1_weigh_23 : decode cX1_weigh 23 = .ok (.return_, 1) := by decide +kernel
theorem dX1_weigh_24 : decode cX1_weigh 24 = .ok (.iconst 0, 1) := by decide +kernel
theorem dX1_weigh_25 : decode cX1_weigh 25 = .ok (.istore_n 3, 1) := by decide +kernel
theorem dX1_weigh_26 : decode cX1_weigh 26 = .ok (.iload_n 3, 1) := by decide +kernel
theorem dX1_weigh_27 : decode cX1_weigh 27 = .ok (.aload_n 1, 1) := by decide +kernel
theorem dX1_weigh_28 : decode cX1_weigh 28 = .ok (.getfield 73, 3) := by decide +kernel
theorem dX1_weigh_31 : decode cX1_weigh 31 = .ok (.arraylength, 1) := by decide +kernel
theorem dX1_weigh_32 : decode cX1_weigh 32 = .ok (.if_icmp .ge 22, 3) := by decide +kernel
theorem dX1_weigh_35 : decode cX1_weigh 35 = .ok (.aload_n 0, 1) := by decide +kernel
theorem dX1_weigh_36 : decode cX1_weigh 36 = .ok (.aload_n 1, 1) := by decide +kernel
theorem dX1_weigh_37 : decode cX1_weigh 37 = .ok (.getfield 73, 3) := by decide +kernel
theorem dX1_weigh_40 : decode cX1_weigh 40 = .ok (.iload_n 3, 1) := by decide +kernel
theorem dX1_weigh_41 : decode cX1_weigh 41 = .ok (.aaload, 1) := by decide +kernel
theorem dX1_weigh_42 : decode cX1_weigh 42 = .ok (.iload_n 2, 1) := by decide +kernel
theorem dX1_weigh_43 : decode cX1_weigh 43 = .ok (.iconst 1, 1) := by decide +kernel
theorem dX1_weigh_44 : decode cX1_weigh 44 = .ok (.iadd, 1) := by decide +kernel
theorem dX1_weigh_45 : decode cX1_weigh 45 = .ok (.invokestatic 40, 3) := by decide +kernel
theorem dX1_weigh_48 : decode cX1_weigh 48 = .ok (.iinc 3 1, 3) := by decide +kernel
theorem dX1_weigh_51 : decode cX1_weigh 51 = .ok (.goto (-25), 3) := by decide +kernel
theorem dX1_weigh_54 : decode cX1_weigh 54 = .ok (.aload_n 0, 1) := by decide +kernel
theorem dX1_weigh_55 : decode cX1_weigh 55 = .ok (.aload_n 1, 1) := by decide +kernel
theorem dX1_weigh_56 : decode cX1_weigh 56 = .ok (.invokestatic 44, 3) := by decide +kernel
theorem dX1_weigh_59 : decode cX1_weigh 59 = .ok (.aload_n 1, 1) := by decide +kernel
theorem dX1_weigh_60 : decode cX1_weigh 60 = .ok (.getfield 81, 3) := by decide +kernel
theorem dX1_weigh_63 : decode cX1_weigh 63 = .ok (.aload_n 1, 1) := by decide +kernel
theorem dX1_weigh_64 : decode cX1_weigh 64 = .ok (.getfield 73, 3) := by decide +kernel
theorem dX1_weigh_67 : decode cX1_weigh 67 = .ok (.invokevirtual 84, 3) := by decide +kernel
theorem dX1_weigh_70 : decode cX1_weigh 70 = .ok (.return_, 1) := by decide +kernel
theorem dX1_weighDeed_0 : decode cX1_weighDeed 0 = .ok (.aload_n 1, 1) := by decide +kernel
theorem dX1_weighDeed_1 : decode cX1_weighDeed 1 = .ok (.ldc 52, 2) := by decide +kernel
theorem dX1_weighDeed_3 : decode cX1_weighDeed 3 = .ok (.invokestatic 88, 3) := by decide +kernel
theorem dX1_weighDeed_6 : decode cX1_weighDeed 6 = .ok (.aload_n 1, 1) := by decide +kernel
theorem dX1_weighDeed_7 : decode cX1_weighDeed 7 = .ok (.iconst 0, 1) := by decide +kernel
theorem dX1_weighDeed_8 : decode cX1_weighDeed 8 = .ok (.aload_n 2, 1) := by decide +kernel
theorem dX1_weighDeed_9 : decode cX1_weighDeed 9 = .ok (.getfield 94, 3) := by decide +kernel
theorem dX1_weighDeed_12 : decode cX1_weighDeed 12 = .ok (.iastore, 1) := by decide +kernel
theorem dX1_weighDeed_13 : decode cX1_weighDeed 13 = .ok (.iconst 0, 1) := by decide +kernel
theorem dX1_weighDeed_14 : decode cX1_weighDeed 14 = .ok (.istore_n 3, 1) := by decide +kernel
theorem dX1_weighDeed_15 : decode cX1_weighDeed 15 = .ok (.iload_n 3, 1) := by decide +kernel
theorem dX1_weighDeed_16 : decode cX1_weighDeed 16 = .ok (.aload_n 0, 1) := by decide +kernel
theorem dX1_weighDeed_17 : decode cX1_weighDeed 17 = .ok (.getfield 33, 3) := by decide +kernel
theorem dX1_weighDeed_20 : decode cX1_weighDeed 20 = .ok (.if_icmp .ge 28, 3) := by decide +kernel
theorem dX1_weighDeed_23 : decode cX1_weighDeed 23 = .ok (.aload_n 0, 1) := by decide +kernel
theorem dX1_weighDeed_24 : decode cX1_weighDeed 24 = .ok (.getfield 9, 3) := by decide +kernel
theorem dX1_weighDeed_27 : decode cX1_weighDeed 27 = .ok (.iload_n 3, 1) := by decide +kernel
theorem dX1_weighDeed_28 : decode cX1_weighDeed 28 = .ok (.iaload, 1) := by decide +kernel
theorem dX1_weighDeed_29 : decode cX1_weighDeed 29 = .ok (.aload_n 2, 1) := by decide +kernel
theorem dX1_weighDeed_30 : decode cX1_weighDeed 30 = .ok (.getfield 97, 3) := by decide +kernel
theorem dX1_weighDeed_33 : decode cX1_weighDeed 33 = .ok (.if_icmp .ne 9, 3) := by decide +kernel
theorem dX1_weighDeed_36 : decode cX1_weighDeed 36 = .ok (.aload_n 1, 1) := by decide +kernel
theorem dX1_weighDeed_37 : decode cX1_weighDeed 37 = .ok (.iconst 1, 1) := by decide +kernel
theorem dX1_weighDeed_38 : decode cX1_weighDeed 38 = .ok (.iload_n 3, 1) := by decide +kernel
theorem dX1_weighDeed_39 : decode cX1_weighDeed 39 = .ok (.ishl, 1) := by decide +kernel
theorem dX1_weighDeed_40 : decode cX1_weighDeed 40 = .ok (.iconst 0, 1) := by decide +kernel
theorem dX1_weighDeed_41 : decode cX1_weighDeed 41 = .ok (.iastore, 1) := by decide +kernel
theorem dX1_weighDeed_42 : decode cX1_weighDeed 42 = .ok (.iinc 3 1, 3) := by decide +kernel
theorem dX1_weighDeed_45 : decode cX1_weighDeed 45 = .ok (.goto (-30), 3) := by decide +kernel
theorem dX1_weighDeed_48 : decode cX1_weighDeed 48 = .ok (.return_, 1) := by decide +kernel
theorem dX1_weighParts_0 : decode cX1_weighParts 0 = .ok (.iconst 0, 1) := by decide +kernel
theorem dX1_weighParts_1 : decode cX1_weighParts 1 = .ok (.istore 4, 2) := by decide +kernel
theorem dX1_weighParts_3 : decode cX1_weighParts 3 = .ok (.iload 4, 2) := by decide +kernel
theorem dX1_weighParts_5 : decode cX1_weighParts 5 = .ok (.aload_n 3, 1) := by decide +kernel
theorem dX1_weighParts_6 : decode cX1_weighParts 6 = .ok (.arraylength, 1) := by decide +kernel
theorem dX1_weighParts_7 : decode cX1_weighParts 7 = .ok (.if_icmp .ge 75, 3) := by decide +kernel
theorem dX1_weighParts_10 : decode cX1_weighParts 10 = .ok (.aload_n 3, 1) := by decide +kernel
theorem dX1_weighParts_11 : decode cX1_weighParts 11 = .ok (.iload 4, 2) := by decide +kernel
theorem dX1_weighParts_13 : decode cX1_weighParts 13 = .ok (.aaload, 1) := by decide +kernel
theorem dX1_weighParts_14 : decode cX1_weighParts 14 = .ok (.invokestatic 44, 3) := by decide +kernel
theorem dX1_weighParts_17 : decode cX1_weighParts 17 = .ok (.astore 5, 2) := by decide +kernel
theorem dX1_weighParts_19 : decode cX1_weighParts 19 = .ok (.iload 4, 2) := by decide +kernel
theorem dX1_weighParts_21 : decode cX1_weighParts 21 = .ok (.ifCond .ne 13, 3) := by decide +kernel
theorem dX1_weighParts_24 : decode cX1_weighParts 24 = .ok (.aload_n 0, 1) := by decide +kernel
theorem dX1_weighParts_25 : decode cX1_weighParts 25 = .ok (.aload 5, 2) := by decide +kernel
theorem dX1_weighParts_27 : decode cX1_weighParts 27 = .ok (.aload_n 1, 1) := by decide +kernel
theorem dX1_weighParts_28 : decode cX1_weighParts 28 = .ok (.invokevirtual 100, 3) := by decide +kernel
theorem dX1_weighParts_31 : decode cX1_weighParts 31 = .ok (.goto 45, 3) := by decide +kernel
theorem dX1_weighParts_34 : decode cX1_weighParts 34 = .ok (.iload_n 2, 1) := by decide +kernel
theorem dX1_weighParts_35 : decode cX1_weighParts 35 = .ok (.iconst 2, 1) := by decide +kernel
theorem dX1_weighParts_36 : decode cX1_weighParts 36 = .ok (.if_icmp .ne 13, 3) := by decide +kernel
theorem dX1_weighParts_39 : decode cX1_weighParts 39 = .ok (.aload_n 0, 1) := by decide +kernel
theorem dX1_weighParts_40 : decode cX1_weighParts 40 = .ok (.aload_n 1, 1) := by decide +kernel
theorem dX1_weighParts_41 : decode cX1_weighParts 41 = .ok (.aload 5, 2) := by decide +kernel
theorem dX1_weighParts_43 : decode cX1_weighParts 43 = .ok (.invokevirtual 104, 3) := by decide +kernel
theorem dX1_weighParts_46 : decode cX1_weighParts 46 = .ok (.goto 30, 3) := by decide +kernel
theorem dX1_weighParts_49 : decode cX1_weighParts 49 = .ok (.iload_n 2, 1) := by decide +kernel
theorem dX1_weighParts_50 : decode cX1_weighParts 50 = .ok (.iconst 3, 1) := by decide +kernel
theorem dX1_weighParts_51 : decode cX1_weighParts 51 = .ok (.if_icmp .ne 13, 3) := by decide +kernel
theorem dX1_weighParts_54 : decode cX1_weighParts 54 = .ok (.aload_n 0, 1) := by decide +kernel
theorem dX1_weighParts_55 : decode cX1_weighParts 55 = .ok (.aload_n 1, 1) := by decide +kernel
theorem dX1_weighParts_56 : decode cX1_weighParts 56 = .ok (.aload 5, 2) := by decide +kernel
theorem dX1_weighParts_58 : decode cX1_weighParts 58 = .ok (.invokevirtual 107, 3) := by decide +kernel
theorem dX1_weighParts_61 : decode cX1_weighParts 61 = .ok (.goto 15, 3) := by decide +kernel
theorem dX1_weighParts_64 : decode cX1_weighParts 64 = .ok (.iload_n 2, 1) := by decide +kernel
theorem dX1_weighParts_65 : decode cX1_weighParts 65 = .ok (.iconst 4, 1) := by decide +kernel
theorem dX1_weighParts_66 : decode cX1_weighParts 66 = .ok (.if_icmp .ne 10, 3) := by decide +kernel
theorem dX1_weighParts_69 : decode cX1_weighParts 69 = .ok (.aload_n 0, 1) := by decide +kernel
theorem dX1_weighParts_70 : decode cX1_weighParts 70 = .ok (.aload_n 1, 1) := by decide +kernel
theorem dX1_weighParts_71 : decode cX1_weighParts 71 = .ok (.aload 5, 2) := by decide +kernel
theorem dX1_weighParts_73 : decode cX1_weighParts 73 = .ok (.invokevirtual 110, 3) := by decide +kernel
theorem dX1_weighParts_76 : decode cX1_weighParts 76 = .ok (.iinc 4 1, 3) := by decide +kernel
theorem dX1_weighParts_79 : decode cX1_weighParts 79 = .ok (.goto (-76), 3) := by decide +kernel
theorem dX1_weighParts_82 : decode cX1_weighParts 82 = .ok (.iload_n 2, 1) := by decide +kernel
theorem dX1_weighParts_83 : decode cX1_weighParts 83 = .ok (.iconst 5, 1) := by decide +kernel
theorem dX1_weighParts_84 : decode cX1_weighParts 84 = .ok (.if_icmp .ne 9, 3) := by decide +kernel
theorem dX1_weighParts_87 : decode cX1_weighParts 87 = .ok (.aload_n 0, 1) := by decide +kernel
theorem dX1_weighParts_88 : decode cX1_weighParts 88 = .ok (.aload_n 1, 1) := by decide +kernel
theorem dX1_weighParts_89 : decode cX1_weighParts 89 = .ok (.aload_n 3, 1) := by decide +kernel
theorem dX1_weighParts_90 : decode cX1_weighParts 90 = .ok (.invokevirtual 113, 3) := by decide +kernel
theorem dX1_weighParts_93 : decode cX1_weighParts 93 = .ok (.return_, 1) := by decide +kernel
theorem dX1_weighRounds_0 : decode cX1_weighRounds 0 = .ok (.aload_n 0, 1) := by decide +kernel
theorem dX1_weighRounds_1 : decode cX1_weighRounds 1 = .ok (.getfield 15, 3) := by decide +kernel
theorem dX1_weighRounds_4 : decode cX1_weighRounds 4 = .ok (.ldc 52, 2) := by decide +kernel
theorem dX1_weighRounds_6 : decode cX1_weighRounds 6 = .ok (.invokestatic 88, 3) := by decide +kernel
theorem dX1_weighRounds_9 : decode cX1_weighRounds 9 = .ok (.iconst 1, 1) := by decide +kernel
theorem dX1_weighRounds_10 : decode cX1_weighRounds 10 = .ok (.istore_n 3, 1) := by decide +kernel
theorem dX1_weighRounds_11 : decode cX1_weighRounds 11 = .ok (.iload_n 3, 1) := by decide +kernel
theorem dX1_weighRounds_12 : decode cX1_weighRounds 12 = .ok (.aload_n 2, 1) := by decide +kernel
theorem dX1_weighRounds_13 : decode cX1_weighRounds 13 = .ok (.arraylength, 1) := by decide +kernel
theorem dX1_weighRounds_14 : decode cX1_weighRounds 14 = .ok (.if_icmp .ge 23, 3) := by decide +kernel
theorem dX1_weighRounds_17 : decode cX1_weighRounds 17 = .ok (.aload_n 0, 1) := by decide +kernel
theorem dX1_weighRounds_18 : decode cX1_weighRounds 18 = .ok (.aload_n 0, 1) := by decide +kernel
theorem dX1_weighRounds_19 : decode cX1_weighRounds 19 = .ok (.getfield 15, 3) := by decide +kernel
theorem dX1_weighRounds_22 : decode cX1_weighRounds 22 = .ok (.aload_n 2, 1) := by decide +kernel
theorem dX1_weighRounds_23 : decode cX1_weighRounds 23 = .ok (.iload_n 3, 1) := by decide +kernel
theorem dX1_weighRounds_24 : decode cX1_weighRounds 24 = .ok (.aaload, 1) := by decide +kernel
theorem dX1_weighRounds_25 : decode cX1_weighRounds 25 = .ok (.invokestatic 44, 3) := by decide +kernel
theorem dX1_weighRounds_28 : decode cX1_weighRounds 28 = .ok (.invokevirtual 107, 3) := by decide +kernel
theorem dX1_weighRounds_31 : decode cX1_weighRounds 31 = .ok (.iinc 3 1, 3) := by decide +kernel
theorem dX1_weighRounds_34 : decode cX1_weighRounds 34 = .ok (.goto (-23), 3) := by decide +kernel
theorem dX1_weighRounds_37 : decode cX1_weighRounds 37 = .ok (.aload_n 0, 1) := by decide +kernel
theorem dX1_weighRounds_38 : decode cX1_weighRounds 38 = .ok (.aload_n 0, 1) := by decide +kernel
theorem dX1_weighRounds_39 : decode cX1_weighRounds 39 = .ok (.getfield 15, 3) := by decide +kernel
theorem dX1_weighRounds_42 : decode cX1_weighRounds 42 = .ok (.aload_n 0, 1) := by decide +kernel
theorem dX1_weighRounds_43 : decode cX1_weighRounds 43 = .ok (.getfield 18, 3) := by decide +kernel
theorem dX1_weighRounds_46 : decode cX1_weighRounds 46 = .ok (.invokevirtual 100, 3) := by decide +kernel
theorem dX1_weighRounds_49 : decode cX1_weighRounds 49 = .ok (.aload_n 0, 1) := by decide +kernel
theorem dX1_weighRounds_50 : decode cX1_weighRounds 50 = .ok (.aload_n 0, 1) := by decide +kernel
theorem dX1_weighRounds_51 : decode cX1_weighRounds 51 = .ok (.getfield 18, 3) := by decide +kernel
theorem dX1_weighRounds_54 : decode cX1_weighRounds 54 = .ok (.aload_n 1, 1) := by decide +kernel
theorem dX1_weighRounds_55 : decode cX1_weighRounds 55 = .ok (.invokevirtual 104, 3) := by decide +kernel
theorem dX1_weighRounds_58 : decode cX1_weighRounds 58 = .ok (.iconst 1, 1) := by decide +kernel
theorem dX1_weighRounds_59 : decode cX1_weighRounds 59 = .ok (.istore_n 3, 1) := by decide +kernel
theorem dX1_weighRounds_60 : decode cX1_weighRounds 60 = .ok (.iload_n 3, 1) := by decide +kernel
theorem dX1_weighRounds_61 : decode cX1_weighRounds 61 = .ok (.aload_n 0, 1) := by decide +kernel
theorem dX1_weighRounds_62 : decode cX1_weighRounds 62 = .ok (.getfield 34, 3) := by decide +kernel
theorem dX1_weighRounds_65 : decode cX1_weighRounds 65 = .ok (.if_icmp .ge 66, 3) := by decide +kernel
theorem dX1_weighRounds_68 : decode cX1_weighRounds 68 = .ok (.iconst 0, 1) := by decide +kernel
theorem dX1_weighRounds_69 : decode cX1_weighRounds 69 = .ok (.istore 4, 2) := by decide +kernel
theorem dX1_weighRounds_71 : decode cX1_weighRounds 71 = .ok (.iload 4, 2) := by decide +kernel
theorem dX1_weighRounds_73 : decode cX1_weighRounds 73 = .ok (.aload_n 0, 1) := by decide +kernel
theorem dX1_weighRounds_74 : decode cX1_weighRounds 74 = .ok (.getfield 33, 3) := by decide +kernel
theorem dX1_weighRounds_77 : decode cX1_weighRounds 77 = .ok (.if_icmp .ge 48, 3) := by decide +kernel
theorem dX1_weighRounds_80 : decode cX1_weighRounds 80 = .ok (.iload_n 3, 1) := by decide +kernel
theorem dX1_weighRounds_81 : decode cX1_weighRounds 81 = .ok (.iconst 1, 1) := by decide +kernel
theorem dX1_weighRounds_82 : decode cX1_weighRounds 82 = .ok (.iload 4, 2) := by decide +kernel
theorem dX1_weighRounds_84 : decode cX1_weighRounds 84 = .ok (.ishl, 1) := by decide +kernel
theorem dX1_weighRounds_85 : decode cX1_weighRounds 85 = .ok (.iconst 1, 1) := by decide +kernel
theorem dX1_weighRounds_86 : decode cX1_weighRounds 86 = .ok (.isub, 1) := by decide +kernel
theorem dX1_weighRounds_87 : decode cX1_weighRounds 87 = .ok (.iand, 1) := by decide +kernel
theorem dX1_weighRounds_88 : decode cX1_weighRounds 88 = .ok (.istore 5, 2) := by decide +kernel
theorem dX1_weighRounds_90 : decode cX1_weighRounds 90 = .ok (.iload 5, 2) := by decide +kernel
theorem dX1_weighRounds_92 : decode cX1_weighRounds 92 = .ok (.iload_n 3, 1) := by decide +kernel
theorem dX1_weighRounds_93 : decode cX1_weighRounds 93 = .ok (.if_icmp .eq 26, 3) := by decide +kernel
theorem dX1_weighRounds_96 : decode cX1_weighRounds 96 = .ok (.aload_n 1, 1) := by decide +kernel
theorem dX1_weighRounds_97 : decode cX1_weighRounds 97 = .ok (.iload_n 3, 1) := by decide +kernel
theorem dX1_weighRounds_98 : decode cX1_weighRounds 98 = .ok (.aload_n 1, 1) := by decide +kernel
theorem dX1_weighRounds_99 : decode cX1_weighRounds 99 = .ok (.iload_n 3, 1) := by decide +kernel
theorem dX1_weighRounds_100 : decode cX1_weighRounds 100 = .ok (.iaload, 1) := by decide +kernel
theorem dX1_weighRounds_101 : decode cX1_weighRounds 101 = .ok (.aload_n 1, 1) := by decide +kernel
theorem dX1_weighRounds_102 : decode cX1_weighRounds 102 = .ok (.iload 5, 2) := by decide +kernel
theorem dX1_weighRounds_104 : decode cX1_weighRounds 104 = .ok (.iaload, 1) := by decide +kernel
theorem dX1_weighRounds_105 : decode cX1_weighRounds 105 = .ok (.aload_n 0, 1) := by decide +kernel
theorem dX1_weighRounds_106 : decode cX1_weighRounds 106 = .ok (.getfield 18, 3) := by decide +kernel
theorem dX1_weighRounds_109 : decode cX1_weighRounds 109 = .ok (.iload_n 3, 1) := by decide +kernel
theorem dX1_weighRounds_110 : decode cX1_weighRounds 110 = .ok (.iload 5, 2) := by decide +kernel
theorem dX1_weighRounds_112 : decode cX1_weighRounds 112 = .ok (.ixor, 1) := by decide +kernel
theorem dX1_weighRounds_113 : decode cX1_weighRounds 113 = .ok (.iaload, 1) := by decide +kernel
theorem dX1_weighRounds_114 : decode cX1_weighRounds 114 = .ok (.iadd, 1) := by decide +kernel
theorem dX1_weighRounds_115 : decode cX1_weighRounds 115 = .ok (.invokestatic 27, 3) := by decide +kernel
theorem dX1_weighRounds_118 : decode cX1_weighRounds 118 = .ok (.iastore, 1) := by decide +kernel
theorem dX1_weighRounds_119 : decode cX1_weighRounds 119 = .ok (.iinc 4 1, 3) := by decide +kernel
theorem dX1_weighRounds_122 : decode cX1_weighRounds 122 = .ok (.goto (-51), 3) := by decide +kernel
theorem dX1_weighRounds_125 : decode cX1_weighRounds 125 = .ok (.iinc 3 1, 3) := by decide +kernel
theorem dX1_weighRounds_128 : decode cX1_weighRounds 128 = .ok (.goto (-68), 3) := by decide +kernel
theorem dX1_weighRounds_131 : decode cX1_weighRounds 131 = .ok (.return_, 1) := by decide +kernel
theorem dX1_inRow_0 : decode cX1_inRow 0 = .ok (.aload_n 0, 1) := by decide +kernel
theorem dX1_inRow_1 : decode cX1_inRow 1 = .ok (.getfield 34, 3) := by decide +kernel
theorem dX1_inRow_4 : decode cX1_inRow 4 = .ok (.iconst 1, 1) := by decide +kernel
theorem dX1_inRow_5 : decode cX1_inRow 5 = .ok (.isub, 1) := by decide +kernel
theorem dX1_inRow_6 : decode cX1_inRow 6 = .ok (.istore_n 3, 1) := by decide +kernel
theorem dX1_inRow_7 : decode cX1_inRow 7 = .ok (.iload_n 3, 1) := by decide +kernel
theorem dX1_inRow_8 : decode cX1_inRow 8 = .ok (.ifCond .lt 64, 3) := by decide +kernel
theorem dX1_inRow_11 : decode cX1_inRow 11 = .ok (.ldc 52, 2) := by decide +kernel
theorem dX1_inRow_13 : decode cX1_inRow 13 = .ok (.istore 4, 2) := by decide +kernel
theorem dX1_inRow_15 : decode cX1_inRow 15 = .ok (.iconst 0, 1) := by decide +kernel
theorem dX1_inRow_16 : decode cX1_inRow 16 = .ok (.istore 5, 2) := by decide +kernel
theorem dX1_inRow_18 : decode cX1_inRow 18 = .ok (.iload 5, 2) := by decide +kernel
theorem dX1_inRow_20 : decode cX1_inRow 20 = .ok (.aload_n 0, 1) := by decide +kernel
theorem dX1_inRow_21 : decode cX1_inRow 21 = .ok (.getfield 33, 3) := by decide +kernel
theorem dX1_inRow_24 : decode cX1_inRow 24 = .ok (.if_icmp .gt 37, 3) := by decide +kernel
theorem dX1_inRow_27 : decode cX1_inRow 27 = .ok (.iload_n 3, 1) := by decide +kernel
theorem dX1_inRow_28 : decode cX1_inRow 28 = .ok (.iconst 1, 1) := by decide +kernel
theorem dX1_inRow_29 : decode cX1_inRow 29 = .ok (.iload 5, 2) := by decide +kernel
theorem dX1_inRow_31 : decode cX1_inRow 31 = .ok (.ishl, 1) := by decide +kernel
theorem dX1_inRow_32 : decode cX1_inRow 32 = .ok (.iconst 1, 1) := by decide +kernel
theorem dX1_inRow_33 : decode cX1_inRow 33 = .ok (.isub, 1) := by decide +kernel
theorem dX1_inRow_34 : decode cX1_inRow 34 = .ok (.iand, 1) := by decide +kernel
theorem dX1_inRow_35 : decode cX1_inRow 35 = .ok (.istore 6, 2) := by decide +kernel
theorem dX1_inRow_37 : decode cX1_inRow 37 = .ok (.iload 4, 2) := by decide +kernel
theorem dX1_inRow_39 : decode cX1_inRow 39 = .ok (.aload_n 1, 1) := by decide +kernel
theorem dX1_inRow_40 : decode cX1_inRow 40 = .ok (.iload 6, 2) := by decide +kernel
theorem dX1_inRow_42 : decode cX1_inRow 42 = .ok (.iaload, 1) := by decide +kernel
theorem dX1_inRow_43 : decode cX1_inRow 43 = .ok (.aload_n 2, 1) := by decide +kernel
theorem dX1_inRow_44 : decode cX1_inRow 44 = .ok (.iload_n 3, 1) := by decide +kernel
theorem dX1_inRow_45 : decode cX1_inRow 45 = .ok (.iload 6, 2) := by decide +kernel
theorem dX1_inRow_47 : decode cX1_inRow 47 = .ok (.ixor, 1) := by decide +kernel
theorem dX1_inRow_48 : decode cX1_inRow 48 = .ok (.iaload, 1) := by decide +kernel
theorem dX1_inRow_49 : decode cX1_inRow 49 = .ok (.iadd, 1) := by decide +kernel
theorem dX1_inRow_50 : decode cX1_inRow 50 = .ok (.invokestatic 27, 3) := by decide +kernel
theorem dX1_inRow_53 : decode cX1_inRow 53 = .ok (.istore 4, 2) := by decide +kernel
theorem dX1_inRow_55 : decode cX1_inRow 55 = .ok (.iinc 5 1, 3) := by decide +kernel
theorem dX1_inRow_58 : decode cX1_inRow 58 = .ok (.goto (-40), 3) := by decide +kernel
theorem dX1_inRow_61 : decode cX1_inRow 61 = .ok (.aload_n 1, 1) := by decide +kernel
theorem dX1_inRow_62 : decode cX1_inRow 62 = .ok (.iload_n 3, 1) := by decide +kernel
theorem dX1_inRow_63 : decode cX1_inRow 63 = .ok (.iload 4, 2) := by decide +kernel
theorem dX1_inRow_65 : decode cX1_inRow 65 = .ok (.iastore, 1) := by decide +kernel
theorem dX1_inRow_66 : decode cX1_inRow 66 = .ok (.iinc 3 (-1), 3) := by decide +kernel
theorem dX1_inRow_69 : decode cX1_inRow 69 = .ok (.goto (-62), 3) := by decide +kernel
theorem dX1_inRow_72 : decode cX1_inRow 72 = .ok (.return_, 1) := by decide +kernel
theorem dX1_mixed_0 : decode cX1_mixed 0 = .ok (.aload_n 0, 1) := by decide +kernel
theorem dX1_mixed_1 : decode cX1_mixed 1 = .ok (.getfield 34, 3) := by decide +kernel
theorem dX1_mixed_4 : decode cX1_mixed 4 = .ok (.iconst 1, 1) := by decide +kernel
theorem dX1_mixed_5 : decode cX1_mixed 5 = .ok (.isub, 1) := by decide +kernel
theorem dX1_mixed_6 : decode cX1_mixed 6 = .ok (.istore_n 3, 1) := by decide +kernel
theorem dX1_mixed_7 : decode cX1_mixed 7 = .ok (.iload_n 3, 1) := by decide +kernel
theorem dX1_mixed_8 : decode cX1_mixed 8 = .ok (.ifCond .lt 65, 3) := by decide +kernel
theorem dX1_mixed_11 : decode cX1_mixed 11 = .ok (.aload_n 1, 1) := by decide +kernel
theorem dX1_mixed_12 : decode cX1_mixed 12 = .ok (.iconst 0, 1) := by decide +kernel
theorem dX1_mixed_13 : decode cX1_mixed 13 = .ok (.iaload, 1) := by decide +kernel
theorem dX1_mixed_14 : decode cX1_mixed 14 = .ok (.aload_n 2, 1) := by decide +kernel
theorem dX1_mixed_15 : decode cX1_mixed 15 = .ok (.iload_n 3, 1) := by decide +kernel
theorem dX1_mixed_16 : decode cX1_mixed 16 = .ok (.iaload, 1) := by decide +kernel
theorem dX1_mixed_17 : decode cX1_mixed 17 = .ok (.iadd, 1) := by decide +kernel
theorem dX1_mixed_18 : decode cX1_mixed 18 = .ok (.istore 4, 2) := by decide +kernel
theorem dX1_mixed_20 : decode cX1_mixed 20 = .ok (.iload_n 3, 1) := by decide +kernel
theorem dX1_mixed_21 : decode cX1_mixed 21 = .ok (.istore 5, 2) := by decide +kernel
theorem dX1_mixed_23 : decode cX1_mixed 23 = .ok (.iload 5, 2) := by decide +kernel
theorem dX1_mixed_25 : decode cX1_mixed 25 = .ok (.ifCond .le 32, 3) := by decide +kernel
theorem dX1_mixed_28 : decode cX1_mixed 28 = .ok (.iload 4, 2) := by decide +kernel
theorem dX1_mixed_30 : decode cX1_mixed 30 = .ok (.aload_n 1, 1) := by decide +kernel
theorem dX1_mixed_31 : decode cX1_mixed 31 = .ok (.iload 5, 2) := by decide +kernel
theorem dX1_mixed_33 : decode cX1_mixed 33 = .ok (.iaload, 1) := by decide +kernel
theorem dX1_mixed_34 : decode cX1_mixed 34 = .ok (.aload_n 2, 1) := by decide +kernel
theorem dX1_mixed_35 : decode cX1_mixed 35 = .ok (.iload_n 3, 1) := by decide +kernel
theorem dX1_mixed_36 : decode cX1_mixed 36 = .ok (.iload 5, 2) := by decide +kernel
theorem dX1_mixed_38 : decode cX1_mixed 38 = .ok (.ixor, 1) := by decide +kernel
theorem dX1_mixed_39 : decode cX1_mixed 39 = .ok (.iaload, 1) := by decide +kernel
theorem dX1_mixed_40 : decode cX1_mixed 40 = .ok (.iadd, 1) := by decide +kernel
theorem dX1_mixed_41 : decode cX1_mixed 41 = .ok (.invokestatic 27, 3) := by decide +kernel
theorem dX1_mixed_44 : decode cX1_mixed 44 = .ok (.istore 4, 2) := by decide +kernel
theorem dX1_mixed_46 : decode cX1_mixed 46 = .ok (.iload 5, 2) := by decide +kernel
theorem dX1_mixed_48 : decode cX1_mixed 48 = .ok (.iconst 1, 1) := by decide +kernel
theorem dX1_mixed_49 : decode cX1_mixed 49 = .ok (.isub, 1) := by decide +kernel
theorem dX1_mixed_50 : decode cX1_mixed 50 = .ok (.iload_n 3, 1) := by decide +kernel
theorem dX1_mixed_51 : decode cX1_mixed 51 = .ok (.iand, 1) := by decide +kernel
theorem dX1_mixed_52 : decode cX1_mixed 52 = .ok (.istore 5, 2) := by decide +kernel
theorem dX1_mixed_54 : decode cX1_mixed 54 = .ok (.goto (-31), 3) := by decide +kernel
theorem dX1_mixed_57 : decode cX1_mixed 57 = .ok (.aload_n 1, 1) := by decide +kernel
theorem dX1_mixed_58 : decode cX1_mixed 58 = .ok (.iload_n 3, 1) := by decide +kernel
theorem dX1_mixed_59 : decode cX1_mixed 59 = .ok (.iload 4, 2) := by decide +kernel
theorem dX1_mixed_61 : decode cX1_mixed 61 = .ok (.ldc 52, 2) := by decide +kernel
theorem dX1_mixed_63 : decode cX1_mixed 63 = .ok (.invokestatic 27, 3) := by decide +kernel
theorem dX1_mixed_66 : decode cX1_mixed 66 = .ok (.iastore, 1) := by decide +kernel
theorem dX1_mixed_67 : decode cX1_mixed 67 = .ok (.iinc 3 (-1), 3) := by decide +kernel
theorem dX1_mixed_70 : decode cX1_mixed 70 = .ok (.goto (-63), 3) := by decide +kernel
theorem dX1_mixed_73 : decode cX1_mixed 73 = .ok (.return_, 1) := by decide +kernel
theorem dX1_cheaper_0 : decode cX1_cheaper 0 = .ok (.iconst 0, 1) := by decide +kernel
theorem dX1_cheaper_1 : decode cX1_cheaper 1 = .ok (.istore_n 3, 1) := by decide +kernel
theorem dX1_cheaper_2 : decode cX1_cheaper 2 = .ok (.iload_n 3, 1) := by decide +kernel
theorem dX1_cheaper_3 : decode cX1_cheaper 3 = .ok (.aload_n 0, 1) := by decide +kernel
theorem dX1_cheaper_4 : decode cX1_cheaper 4 = .ok (.getfield 34, 3) := by decide +kernel
theorem dX1_cheaper_7 : decode cX1_cheaper 7 = .ok (.if_icmp .ge 21, 3) := by decide +kernel
theorem dX1_cheaper_10 : decode cX1_cheaper 10 = .ok (.aload_n 1, 1) := by decide +kernel
theorem dX1_cheaper_11 : decode cX1_cheaper 11 = .ok (.iload_n 3, 1) := by decide +kernel
theorem dX1_cheaper_12 : decode cX1_cheaper 12 = .ok (.aload_n 1, 1) := by decide +kernel
theorem dX1_cheaper_13 : decode cX1_cheaper 13 = .ok (.iload_n 3, 1) := by decide +kernel
theorem dX1_cheaper_14 : decode cX1_cheaper 14 = .ok (.iaload, 1) := by decide +kernel
theorem dX1_cheaper_15 : decode cX1_cheaper 15 = .ok (.aload_n 2, 1) := by decide +kernel
theorem dX1_cheaper_16 : decode cX1_cheaper 16 = .ok (.iload_n 3, 1) := by decide +kernel
theorem dX1_cheaper_17 : decode cX1_cheaper 17 = .ok (.iaload, 1) := by decide +kernel
theorem dX1_cheaper_18 : decode cX1_cheaper 18 = .ok (.invokestatic 27, 3) := by decide +kernel
theorem dX1_cheaper_21 : decode cX1_cheaper 21 = .ok (.iastore, 1) := by decide +kernel
theorem dX1_cheaper_22 : decode cX1_cheaper 22 = .ok (.iinc 3 1, 3) := by decide +kernel
theorem dX1_cheaper_25 : decode cX1_cheaper 25 = .ok (.goto (-23), 3) := by decide +kernel
theorem dX1_cheaper_28 : decode cX1_cheaper 28 = .ok (.return_, 1) := by decide +kernel
theorem dX1_copy_0 : decode cX1_copy 0 = .ok (.iconst 0, 1) := by decide +kernel
theorem dX1_copy_1 : decode cX1_copy 1 = .ok (.istore_n 3, 1) := by decide +kernel
theorem dX1_copy_2 : decode cX1_copy 2 = .ok (.iload_n 3, 1) := by decide +kernel
theorem dX1_copy_3 : decode cX1_copy 3 = .ok (.aload_n 0, 1) := by decide +kernel
theorem dX1_copy_4 : decode cX1_copy 4 = .ok (.getfield 34, 3) := by decide +kernel
theorem dX1_copy_7 : decode cX1_copy 7 = .ok (.if_icmp .ge 15, 3) := by decide +kernel
theorem dX1_copy_10 : decode cX1_copy 10 = .ok (.aload_n 2, 1) := by decide +kernel
theorem dX1_copy_11 : decode cX1_copy 11 = .ok (.iload_n 3, 1) := by decide +kernel
theorem dX1_copy_12 : decode cX1_copy 12 = .ok (.aload_n 1, 1) := by decide +kernel
theorem dX1_copy_13 : decode cX1_copy 13 = .ok (.iload_n 3, 1) := by decide +kernel
theorem dX1_copy_14 : decode cX1_copy 14 = .ok (.iaload, 1) := by decide +kernel
theorem dX1_copy_15 : decode cX1_copy 15 = .ok (.iastore, 1) := by decide +kernel
theorem dX1_copy_16 : decode cX1_copy 16 = .ok (.iinc 3 1, 3) := by decide +kernel
theorem dX1_copy_19 : decode cX1_copy 19 = .ok (.goto (-17), 3) := by decide +kernel
theorem dX1_copy_22 : decode cX1_copy 22 = .ok (.return_, 1) := by decide +kernel
theorem dX2_init_0 : decode cX2_init 0 = .ok (.aload_n 0, 1) := by decide +kernel
theorem dX2_init_1 : decode cX2_init 1 = .ok (.invokespecial 3, 3) := by decide +kernel
theorem dX2_init_4 : decode cX2_init 4 = .ok (.aload_n 0, 1) := by decide +kernel
theorem dX2_init_5 : decode cX2_init 5 = .ok (.bipush (-3), 2) := by decide +kernel
theorem dX2_init_7 : decode cX2_init 7 = .ok (.putfield 9, 3) := by decide +kernel
theorem dX2_init_10 : decode cX2_init 10 = .ok (.aload_n 0, 1) := by decide +kernel
theorem dX2_init_11 : decode cX2_init 11 = .ok (.iload_n 1, 1) := by decide +kernel
theorem dX2_init_12 : decode cX2_init 12 = .ok (.putfield 15, 3) := by decide +kernel
theorem dX2_init_15 : decode cX2_init 15 = .ok (.aload_n 0, 1) := by decide +kernel
theorem dX2_init_16 : decode cX2_init 16 = .ok (.iload_n 2, 1) := by decide +kernel
theorem dX2_init_17 : decode cX2_init 17 = .ok (.putfield 18, 3) := by decide +kernel
theorem dX2_init_20 : decode cX2_init 20 = .ok (.aload_n 0, 1) := by decide +kernel
theorem dX2_init_21 : decode cX2_init 21 = .ok (.aload_n 3, 1) := by decide +kernel
theorem dX2_init_22 : decode cX2_init 22 = .ok (.putfield 21, 3) := by decide +kernel
theorem dX2_init_25 : decode cX2_init 25 = .ok (.iconst 1, 1) := by decide +kernel
theorem dX2_init_26 : decode cX2_init 26 = .ok (.istore 4, 2) := by decide +kernel
theorem dX2_init_28 : decode cX2_init 28 = .ok (.iconst 0, 1) := by decide +kernel
theorem dX2_init_29 : decode cX2_init 29 = .ok (.istore 5, 2) := by decide +kernel
theorem dX2_init_31 : decode cX2_init 31 = .ok (.iload 5, 2) := by decide +kernel
theorem dX2_init_33 : decode cX2_init 33 = .ok (.aload_n 3, 1) := by decide +kernel
theorem dX2_init_34 : decode cX2_init 34 = .ok (.arraylength, 1) := by decide +kernel
theorem dX2_init_35 : decode cX2_init 35 = .ok (.if_icmp .ge 21, 3) := by decide +kernel
theorem dX2_init_38 : decode cX2_init 38 = .ok (.iload 4, 2) := by decide +kernel
theorem dX2_init_40 : decode cX2_init 40 = .ok (.aload_n 3, 1) := by decide +kernel
theorem dX2_init_41 : decode cX2_init 41 = .ok (.iload 5, 2) := by decide +kernel
theorem dX2_init_43 : decode cX2_init 43 = .ok (.aaload, 1) := by decide +kernel
theorem dX2_init_44 : decode cX2_init 44 = .ok (.getfield 25, 3) := by decide +kernel
theorem dX2_init_47 : decode cX2_init 47 = .ok (.iadd, 1) := by decide +kernel
theorem dX2_init_48 : decode cX2_init 48 = .ok (.istore 4, 2) := by decide +kernel
theorem dX2_init_50 : decode cX2_init 50 = .ok (.iinc 5 1, 3) := by decide +kernel
theorem dX2_init_53 : decode cX2_init 53 = .ok (.goto (-22), 3) := by decide +kernel
theorem dX2_init_56 : decode cX2_init 56 = .ok (.aload_n 0, 1) := by decide +kernel
theorem dX2_init_57 : decode cX2_init 57 = .ok (.iload 4, 2) := by decide +kernel
theorem dX2_init_59 : decode cX2_init 59 = .ok (.putfield 25, 3) := by decide +kernel
theorem dX2_init_62 : decode cX2_init 62 = .ok (.aload_n 0, 1) := by decide +kernel
theorem dX2_init_63 : decode cX2_init 63 = .ok (.iload_n 1, 1) := by decide +kernel
theorem dX2_init_64 : decode cX2_init 64 = .ok (.aload_n 3, 1) := by decide +kernel
theorem dX2_init_65 : decode cX2_init 65 = .ok (.invokestatic 28, 3) := by decide +kernel
theorem dX2_init_68 : decode cX2_init 68 = .ok (.putfield 32, 3) := by decide +kernel
theorem dX2_init_71 : decode cX2_init 71 = .ok (.return_, 1) := by decide +kernel
theorem dX2_fewestOf_0 : decode cX2_fewestOf 0 = .ok (.iload_n 0, 1) := by decide +kernel
theorem dX2_fewestOf_1 : decode cX2_fewestOf 1 = .ok (.ifCond .ne 5, 3) := by decide +kernel
theorem dX2_fewestOf_4 : decode cX2_fewestOf 4 = .ok (.iconst 1, 1) := by decide +kernel
theorem dX2_fewestOf_5 : decode cX2_fewestOf 5 = .ok (.ireturn, 1) := by decide +kernel
theorem dX2_fewestOf_6 : decode cX2_fewestOf 6 = .ok (.aload_n 1, 1) := by decide +kernel
theorem dX2_fewestOf_7 : decode cX2_fewestOf 7 = .ok (.arraylength, 1) := by decide +kernel
theorem dX2_fewestOf_8 : decode cX2_fewestOf 8 = .ok (.ifCond .ne 5, 3) := by decide +kernel
theorem dX2_fewestOf_11 : decode cX2_fewestOf 11 = .ok (.iconst 0, 1) := by decide +kernel
theorem dX2_fewestOf_12 : decode cX2_fewestOf 12 = .ok (.ireturn, 1) := by decide +kernel
theorem dX2_fewestOf_13 : decode cX2_fewestOf 13 = .ok (.aload_n 1, 1) := by decide +kernel
theorem dX2_fewestOf_14 : decode cX2_fewestOf 14 = .ok (.iconst 0, 1) := by decide +kernel
theorem dX2_fewestOf_15 : decode cX2_fewestOf 15 = .ok (.aaload, 1) := by decide +kernel
theorem dX2_fewestOf_16 : decode cX2_fewestOf 16 = .ok (.getfield 32, 3) := by decide +kernel
theorem dX2_fewestOf_19 : decode cX2_fewestOf 19 = .ok (.istore_n 2, 1) := by decide +kernel
theorem dX2_fewestOf_20 : decode cX2_fewestOf 20 = .ok (.iconst 1, 1) := by decide +kernel
theorem dX2_fewestOf_21 : decode cX2_fewestOf 21 = .ok (.istore_n 3, 1) := by decide +kernel
theorem dX2_fewestOf_22 : decode cX2_fewestOf 22 = .ok (.iload_n 3, 1) := by decide +kernel
theorem dX2_fewestOf_23 : decode cX2_fewestOf 23 = .ok (.aload_n 1, 1) := by decide +kernel
theorem dX2_fewestOf_24 : decode cX2_fewestOf 24 = .ok (.arraylength, 1) := by decide +kernel
theorem dX2_fewestOf_25 : decode cX2_fewestOf 25 = .ok (.if_icmp .ge 41, 3) := by decide +kernel
theorem dX2_fewestOf_28 : decode cX2_fewestOf 28 = .ok (.iload_n 0, 1) := by decide +kernel
theorem dX2_fewestOf_29 : decode cX2_fewestOf 29 = .ok (.iconst 5, 1) := by decide +kernel
theorem dX2_fewestOf_30 : decode cX2_fewestOf 30 = .ok (.if_icmp .eq 36, 3) := by decide +kernel
theorem dX2_fewestOf_33 : decode cX2_fewestOf 33 = .ok (.iload_n 0, 1) := by decide +kernel
theorem dX2_fewestOf_34 : decode cX2_fewestOf 34 = .ok (.iconst 3, 1) := by decide +kernel
theorem dX2_fewestOf_35 : decode cX2_fewestOf 35 = .ok (.if_icmp .ne 16, 3) := by decide +kernel
theorem dX2_fewestOf_38 : decode cX2_fewestOf 38 = .ok (.iload_n 2, 1) := by decide +kernel
theorem dX2_fewestOf_39 : decode cX2_fewestOf 39 = .ok (.aload_n 1, 1) := by decide +kernel
theorem dX2_fewestOf_40 : decode cX2_fewestOf 40 = .ok (.iload_n 3, 1) := by decide +kernel
theorem dX2_fewestOf_41 : decode cX2_fewestOf 41 = .ok (.aaload, 1) := by decide +kernel
theorem dX2_fewestOf_42 : decode cX2_fewestOf 42 = .ok (.getfield 32, 3) := by decide +kernel
theorem dX2_fewestOf_45 : decode cX2_fewestOf 45 = .ok (.invokestatic 35, 3) := by decide +kernel
theorem dX2_fewestOf_48 : decode cX2_fewestOf 48 = .ok (.goto 11, 3) := by decide +kernel
theorem dX2_fewestOf_51 : decode cX2_fewestOf 51 = .ok (.iload_n 2, 1) := by decide +kernel
theorem dX2_fewestOf_52 : decode cX2_fewestOf 52 = .ok (.aload_n 1, 1) := by decide +kernel
theorem dX2_fewestOf_53 : decode cX2_fewestOf 53 = .ok (.iload_n 3, 1) := by decide +kernel
theorem dX2_fewestOf_54 : decode cX2_fewestOf 54 = .ok (.aaload, 1) := by decide +kernel
theorem dX2_fewestOf_55 : decode cX2_fewestOf 55 = .ok (.getfield 32, 3) := by decide +kernel
theorem dX2_fewestOf_58 : decode cX2_fewestOf 58 = .ok (.iadd, 1) := by decide +kernel
theorem dX2_fewestOf_59 : decode cX2_fewestOf 59 = .ok (.istore_n 2, 1) := by decide +kernel
theorem dX2_fewestOf_60 : decode cX2_fewestOf 60 = .ok (.iinc 3 1, 3) := by decide +kernel
theorem dX2_fewestOf_63 : decode cX2_fewestOf 63 = .ok (.goto (-41), 3) := by decide +kernel
theorem dX2_fewestOf_66 : decode cX2_fewestOf 66 = .ok (.iload_n 2, 1) := by decide +kernel
theorem dX2_fewestOf_67 : decode cX2_fewestOf 67 = .ok (.ireturn, 1) := by decide +kernel
theorem dX3_init_0 : decode cX3_init 0 = .ok (.aload_n 0, 1) := by decide +kernel
theorem dX3_init_1 : decode cX3_init 1 = .ok (.invokespecial 3, 3) := by decide +kernel
theorem dX3_init_4 : decode cX3_init 4 = .ok (.aload_n 0, 1) := by decide +kernel
theorem dX3_init_5 : decode cX3_init 5 = .ok (.sipush 144, 3) := by decide +kernel
theorem dX3_init_8 : decode cX3_init 8 = .ok (.newarray .int, 2) := by decide +kernel
theorem dX3_init_10 : decode cX3_init 10 = .ok (.putfield 9, 3) := by decide +kernel
theorem dX3_init_13 : decode cX3_init 13 = .ok (.aload_n 0, 1) := by decide +kernel
theorem dX3_init_14 : decode cX3_init 14 = .ok (.bipush 12, 2) := by decide +kernel
theorem dX3_init_16 : decode cX3_init 16 = .ok (.newarray .int, 2) := by decide +kernel
theorem dX3_init_18 : decode cX3_init 18 = .ok (.putfield 15, 3) := by decide +kernel
theorem dX3_init_21 : decode cX3_init 21 = .ok (.aload_n 0, 1) := by decide +kernel
theorem dX3_init_22 : decode cX3_init 22 = .ok (.bipush 12, 2) := by decide +kernel
theorem dX3_init_24 : decode cX3_init 24 = .ok (.newarray .int, 2) := by decide +kernel
theorem dX3_init_26 : decode cX3_init 26 = .ok (.putfield 18, 3) := by decide +kernel
theorem dX3_init_29 : decode cX3_init 29 = .ok (.aload_n 0, 1) := by decide +kernel
theorem dX3_init_30 : decode cX3_init 30 = .ok (.bipush 12, 2) := by decide +kernel
theorem dX3_init_32 : decode cX3_init 32 = .ok (.newarray .int, 2) := by decide +kernel
theorem dX3_init_34 : decode cX3_init 34 = .ok (.putfield 21, 3) := by decide +kernel
theorem dX3_init_37 : decode cX3_init 37 = .ok (.aload_n 0, 1) := by decide +kernel
theorem dX3_init_38 : decode cX3_init 38 = .ok (.bipush 12, 2) := by decide +kernel
theorem dX3_init_40 : decode cX3_init 40 = .ok (.newarray .int, 2) := by decide +kernel
theorem dX3_init_42 : decode cX3_init 42 = .ok (.putfield 24, 3) := by decide +kernel
theorem dX3_init_45 : decode cX3_init 45 = .ok (.aload_n 0, 1) := by decide +kernel
theorem dX3_init_46 : decode cX3_init 46 = .ok (.bipush 12, 2) := by decide +kernel
theorem dX3_init_48 : decode cX3_init 48 = .ok (.newarray .int, 2) := by decide +kernel
theorem dX3_init_50 : decode cX3_init 50 = .ok (.putfield 27, 3) := by decide +kernel
theorem dX3_init_53 : decode cX3_init 53 = .ok (.return_, 1) := by decide +kernel
theorem dX3_put_0 : decode cX3_put 0 = .ok (.aload_n 0, 1) := by decide +kernel
theorem dX3_put_1 : decode cX3_put 1 = .ok (.getfield 30, 3) := by decide +kernel
theorem dX3_put_4 : decode cX3_put 4 = .ok (.aload_n 0, 1) := by decide +kernel
theorem dX3_put_5 : decode cX3_put 5 = .ok (.getfield 9, 3) := by decide +kernel
theorem dX3_put_8 : decode cX3_put 8 = .ok (.arraylength, 1) := by decide +kernel
theorem dX3_put_9 : decode cX3_put 9 = .ok (.if_icmp .lt 4, 3) := by decide +kernel
theorem dX3_put_12 : decode cX3_put 12 = .ok (.return_, 1) := by decide +kernel
theorem dX3_put_13 : decode cX3_put 13 = .ok (.aload_n 0, 1) := by decide +kernel
theorem dX3_put_14 : decode cX3_put 14 = .ok (.getfield 9, 3) := by decide +kernel
theorem dX3_put_17 : decode cX3_put 17 = .ok (.aload_n 0, 1) := by decide +kernel
theorem dX3_put_18 : decode cX3_put 18 = .ok (.getfield 30, 3) := by decide +kernel
theorem dX3_put_21 : decode cX3_put 21 = .ok (.iload_n 1, 1) := by decide +kernel
theorem dX3_put_22 : decode cX3_put 22 = .ok (.iastore, 1) := by decide +kernel
theorem dX3_put_23 : decode cX3_put 23 = .ok (.aload_n 0, 1) := by decide +kernel
theorem dX3_put_24 : decode cX3_put 24 = .ok (.dup, 1) := by decide +kernel
theorem dX3_put_25 : decode cX3_put 25 = .ok (.getfield 30, 3) := by decide +kernel
theorem dX3_put_28 : decode cX3_put 28 = .ok (.iconst 1, 1) := by decide +kernel
theorem dX3_put_29 : decode cX3_put 29 = .ok (.iadd, 1) := by decide +kernel
theorem dX3_put_30 : decode cX3_put 30 = .ok (.putfield 30, 3) := by decide +kernel
theorem dX3_put_33 : decode cX3_put 33 = .ok (.return_, 1) := by decide +kernel
theorem dX3_leaveOutEmpty_0 : decode cX3_leaveOutEmpty 0 = .ok (.aload_n 0, 1) := by decide +kernel
theorem dX3_leaveOutEmpty_1 : decode cX3_leaveOutEmpty 1 = .ok (.getfield 30, 3) := by decide +kernel
theorem dX3_leaveOutEmpty_4 : decode cX3_leaveOutEmpty 4 = .ok (.istore_n 1, 1) := by decide +kernel
theorem dX3_leaveOutEmpty_5 : decode cX3_leaveOutEmpty 5 = .ok (.aload_n 0, 1) := by decide +kernel
theorem dX3_leaveOutEmpty_6 : decode cX3_leaveOutEmpty 6 = .ok (.iconst 0, 1) := by decide +kernel
theorem dX3_leaveOutEmpty_7 : decode cX3_leaveOutEmpty 7 = .ok (.putfield 30, 3) := by decide +kernel
theorem dX3_leaveOutEmpty_10 : decode cX3_leaveOutEmpty 10 = .ok (.iconst 0, 1) := by decide +kernel
theorem dX3_leaveOutEmpty_11 : decode cX3_leaveOutEmpty 11 = .ok (.istore_n 2, 1) := by decide +kernel
theorem dX3_leaveOutEmpty_12 : decode cX3_leaveOutEmpty 12 = .ok (.iload_n 2, 1) := by decide +kernel
theorem dX3_leaveOutEmpty_13 : decode cX3_leaveOutEmpty 13 = .ok (.iload_n 1, 1) := by decide +kernel
theorem dX3_leaveOutEmpty_14 : decode cX3_leaveOutEmpty 14 = .ok (.if_icmp .ge 28, 3) := by decide +kernel
theorem dX3_leaveOutEmpty_17 : decode cX3_leaveOutEmpty 17 = .ok (.aload_n 0, 1) := by decide +kernel
theorem dX3_leaveOutEmpty_18 : decode cX3_leaveOutEmpty 18 = .ok (.getfield 9, 3) := by decide +kernel
theorem dX3_leaveOutEmpty_21 : decode cX3_leaveOutEmpty 21 = .ok (.iload_n 2, 1) := by decide +kernel
theorem dX3_leaveOutEmpty_22 : decode cX3_leaveOutEmpty 22 = .ok (.iaload, 1) := by decide +kernel
theorem dX3_leaveOutEmpty_23 : decode cX3_leaveOutEmpty 23 = .ok (.ifCond .eq 13, 3) := by decide +kernel
theorem dX3_leaveOutEmpty_26 : decode cX3_leaveOutEmpty 26 = .ok (.aload_n 0, 1) := by decide +kernel
theorem dX3_leaveOutEmpty_27 : decode cX3_leaveOutEmpty 27 = .ok (.aload_n 0, 1) := by decide +kernel
theorem dX3_leaveOutEmpty_28 : decode cX3_leaveOutEmpty 28 = .ok (.getfield 9, 3) := by decide +kernel
theorem dX3_leaveOutEmpty_31 : decode cX3_leaveOutEmpty 31 = .ok (.iload_n 2, 1) := by decide +kernel
theorem dX3_leaveOutEmpty_32 : decode cX3_leaveOutEmpty 32 = .ok (.iaload, 1) := by decide +kernel
theorem dX3_leaveOutEmpty_33 : decode cX3_leaveOutEmpty 33 = .ok (.invokevirtual 34, 3) := by decide +kernel
theorem dX3_leaveOutEmpty_36 : decode cX3_leaveOutEmpty 36 = .ok (.iinc 2 1, 3) := by decide +kernel
theorem dX3_leaveOutEmpty_39 : decode cX3_leaveOutEmpty 39 = .ok (.goto (-27), 3) := by decide +kernel
theorem dX3_leaveOutEmpty_42 : decode cX3_leaveOutEmpty 42 = .ok (.return_, 1) := by decide +kernel
theorem dX3_hasLongRow_0 : decode cX3_hasLongRow 0 = .ok (.iconst 0, 1) := by decide +kernel
theorem dX3_hasLongRow_1 : decode cX3_hasLongRow 1 = .ok (.istore_n 1, 1) := by decide +kernel
theorem dX3_hasLongRow_2 : decode cX3_hasLongRow 2 = .ok (.iload_n 1, 1) := by decide +kernel
theorem dX3_hasLongRow_3 : decode cX3_hasLongRow 3 = .ok (.aload_n 0, 1) := by decide +kernel
theorem dX3_hasLongRow_4 : decode cX3_hasLongRow 4 = .ok (.getfield 30, 3) := by decide +kernel
theorem dX3_hasLongRow_7 : decode cX3_hasLongRow 7 = .ok (.if_icmp .ge 26, 3) := by decide +kernel
theorem dX3_hasLongRow_10 : decode cX3_hasLongRow 10 = .ok (.aload_n 0, 1) := by decide +kernel
theorem dX3_hasLongRow_11 : decode cX3_hasLongRow 11 = .ok (.getfield 9, 3) := by decide +kernel
theorem dX3_hasLongRow_14 : decode cX3_hasLongRow 14 = .ok (.iload_n 1, 1) := by decide +kernel
theorem dX3_hasLongRow_15 : decode cX3_hasLongRow 15 = .ok (.iaload, 1) := by decide +kernel
theorem dX3_hasLongRow_16 : decode cX3_hasLongRow 16 = .ok (.iconst 1, 1) := by decide +kernel
theorem dX3_hasLongRow_17 : decode cX3_hasLongRow 17 = .ok (.invokestatic 38, 3) := by decide +kernel
theorem dX3_hasLongRow_20 : decode cX3_hasLongRow 20 = .ok (.bipush (-3), 2) := by decide +kernel
theorem dX3_hasLongRow_22 : decode cX3_hasLongRow 22 = .ok (.if_icmp .eq 5, 3) := by decide +kernel
theorem dX3_hasLongRow_25 : decode cX3_hasLongRow 25 = .ok (.iconst 1, 1) := by decide +kernel
theorem dX3_hasLongRow_26 : decode cX3_hasLongRow 26 = .ok (.ireturn, 1) := by decide +kernel
theorem dX3_hasLongRow_27 : decode cX3_hasLongRow 27 = .ok (.iinc 1 1, 3) := by decide +kernel
theorem dX3_hasLongRow_30 : decode cX3_hasLongRow 30 = .ok (.goto (-28), 3) := by decide +kernel
theorem dX3_hasLongRow_33 : decode cX3_hasLongRow 33 = .ok (.iconst 0, 1) := by decide +kernel
theorem dX3_hasLongRow_34 : decode cX3_hasLongRow 34 = .ok (.ireturn, 1) := by decide +kernel
theorem dX3_nameIn_0 : decode cX3_nameIn 0 = .ok (.iload_n 1, 1) := by decide +kernel
theorem dX3_nameIn_1 : decode cX3_nameIn 1 = .ok (.ifCond .lt 20, 3) := by decide +kernel
theorem dX3_nameIn_4 : decode cX3_nameIn 4 = .ok (.iload_n 1, 1) := by decide +kernel
theorem dX3_nameIn_5 : decode cX3_nameIn 5 = .ok (.bipush 6, 2) := by decide +kernel
theorem dX3_nameIn_7 : decode cX3_nameIn 7 = .ok (.if_icmp .ge 14, 3) := by decide +kernel
theorem dX3_nameIn_10 : decode cX3_nameIn 10 = .ok (.iload_n 0, 1) := by decide +kernel
theorem dX3_nameIn_11 : decode cX3_nameIn 11 = .ok (.iload_n 1, 1) := by decide +kernel
theorem dX3_nameIn_12 : decode cX3_nameIn 12 = .ok (.iconst 4, 1) := by decide +kernel
theorem dX3_nameIn_13 : decode cX3_nameIn 13 = .ok (.imul, 1) := by decide +kernel
theorem dX3_nameIn_14 : decode cX3_nameIn 14 = .ok (.ishr, 1) := by decide +kernel
theorem dX3_nameIn_15 : decode cX3_nameIn 15 = .ok (.bipush 15, 2) := by decide +kernel
theorem dX3_nameIn_17 : decode cX3_nameIn 17 = .ok (.iand, 1) := by decide +kernel
theorem dX3_nameIn_18 : decode cX3_nameIn 18 = .ok (.goto 4, 3) := by decide +kernel
theorem dX3_nameIn_21 : decode cX3_nameIn 21 = .ok (.iconst 0, 1) := by decide +kernel
theorem dX3_nameIn_22 : decode cX3_nameIn 22 = .ok (.istore_n 2, 1) := by decide +kernel
theorem dX3_nameIn_23 : decode cX3_nameIn 23 = .ok (.iload_n 2, 1) := by decide +kernel
theorem dX3_nameIn_24 : decode cX3_nameIn 24 = .ok (.iconst 1, 1) := by decide +kernel
theorem dX3_nameIn_25 : decode cX3_nameIn 25 = .ok (.if_icmp .lt 15, 3) := by decide +kernel
theorem dX3_nameIn_28 : decode cX3_nameIn 28 = .ok (.iload_n 2, 1) := by decide +kernel
theorem dX3_nameIn_29 : decode cX3_nameIn 29 = .ok (.bipush 12, 2) := by decide +kernel
theorem dX3_nameIn_31 : decode cX3_nameIn 31 = .ok (.if_icmp .gt 9, 3) := by decide +kernel
theorem dX3_nameIn_34 : decode cX3_nameIn 34 = .ok (.iload_n 2, 1) := by decide +kernel
theorem dX3_nameIn_35 : decode cX3_nameIn 35 = .ok (.iconst 1, 1) := by decide +kernel
theorem dX3_nameIn_36 : decode cX3_nameIn 36 = .ok (.isub, 1) := by decide +kernel
theorem dX3_nameIn_37 : decode cX3_nameIn 37 = .ok (.goto 5, 3) := by decide +kernel
theorem dX3_nameIn_40 : decode cX3_nameIn 40 = .ok (.bipush (-3), 2) := by decide +kernel
theorem dX3_nameIn_42 : decode cX3_nameIn 42 = .ok (.ireturn, 1) := by decide +kernel
theorem dX3_look_0 : decode cX3_look 0 = .ok (.aload_n 0, 1) := by decide +kernel
theorem dX3_look_1 : decode cX3_look 1 = .ok (.iconst 0, 1) := by decide +kernel
theorem dX3_look_2 : decode cX3_look 2 = .ok (.putfield 42, 3) := by decide +kernel
theorem dX3_look_5 : decode cX3_look 5 = .ok (.aload_n 0, 1) := by decide +kernel
theorem dX3_look_6 : decode cX3_look 6 = .ok (.iconst 0, 1) := by decide +kernel
theorem dX3_look_7 : decode cX3_look 7 = .ok (.putfield 45, 3) := by decide +kernel
theorem dX3_look_10 : decode cX3_look 10 = .ok (.aload_n 0, 1) := by decide +kernel
theorem dX3_look_11 : decode cX3_look 11 = .ok (.iconst 0, 1) := by decide +kernel
theorem dX3_look_12 : decode cX3_look 12 = .ok (.putfield 48, 3) := by decide +kernel
theorem dX3_look_15 : decode cX3_look 15 = .ok (.aload_n 0, 1) := by decide +kernel
theorem dX3_look_16 : decode cX3_look 16 = .ok (.getfield 15, 3) := by decide +kernel
theorem dX3_look_19 : decode cX3_look 19 = .ok (.iconst 0, 1) := by decide +kernel
theorem dX3_look_20 : decode cX3_look 20 = .ok (.invokestatic 51, 3) := by decide +kernel
theorem dX3_look_23 : decode cX3_look 23 = .ok (.aload_n 0, 1) := by decide +kernel
theorem dX3_look_24 : decode cX3_look 24 = .ok (.getfield 18, 3) := by decide +kernel
theorem dX3_look_27 : decode cX3_look 27 = .ok (.iconst 0, 1) := by decide +kernel
theorem dX3_look_28 : decode cX3_look 28 = .ok (.invokestatic 51, 3) := by decide +kernel
theorem dX3_look_31 : decode cX3_look 31 = .ok (.iconst 0, 1) := by decide +kernel
theorem dX3_look_32 : decode cX3_look 32 = .ok (.istore_n 1, 1) := by decide +kernel
theorem dX3_look_33 : decode cX3_look 33 = .ok (.iload_n 1, 1) := by decide +kernel
theorem dX3_look_34 : decode cX3_look 34 = .ok (.aload_n 0, 1) := by decide +kernel
theorem dX3_look_35 : decode cX3_look 35 = .ok (.getfield 30, 3) := by decide +kernel
theorem dX3_look_38 : decode cX3_look 38 = .ok (.if_icmp .ge 19, 3) := by decide +kernel
theorem dX3_look_41 : decode cX3_look 41 = .ok (.aload_n 0, 1) := by decide +kernel
theorem dX3_look_42 : decode cX3_look 42 = .ok (.aload_n 0, 1) := by decide +kernel
theorem dX3_look_43 : decode cX3_look 43 = .ok (.getfield 9, 3) := by decide +kernel
theorem dX3_look_46 : decode cX3_look 46 = .ok (.iload_n 1, 1) := by decide +kernel
theorem dX3_look_47 : decode cX3_look 47 = .ok (.iaload, 1) := by decide +kernel
theorem dX3_look_48 : decode cX3_look 48 = .ok (.invokevirtual 57, 3) := by decide +kernel
theorem dX3_look_51 : decode cX3_look 51 = .ok (.iinc 1 1, 3) := by decide +kernel
theorem dX3_look_54 : decode cX3_look 54 = .ok (.goto (-21), 3) := by decide +kernel
theorem dX3_look_57 : decode cX3_look 57 = .ok (.return_, 1) := by decide +kernel
theorem dX3_lookAt_0 : decode cX3_lookAt 0 = .ok (.bipush (-3), 2) := by decide +kernel
theorem dX3_lookAt_2 : decode cX3_lookAt 2 = .ok (.istore_n 2, 1) := by decide +kernel
theorem dX3_lookAt_3 : decode cX3_lookAt 3 = .ok (.iconst 0, 1) := by decide +kernel
theorem dX3_lookAt_4 : decode cX3_lookAt 4 = .ok (.istore_n 3, 1) := by decide +kernel
theorem dX3_lookAt_5 : decode cX3_lookAt 5 = .ok (.iload_n 3, 1) := by decide +kernel
theorem dX3_lookAt_6 : decode cX3_lookAt 6 = .ok (.bipush 6, 2) := by decide +kernel
theorem dX3_lookAt_8 : decode cX3_lookAt 8 = .ok (.if_icmp .ge 90, 3) := by decide +kernel
theorem dX3_lookAt_11 : decode cX3_lookAt 11 = .ok (.iload_n 1, 1) := by decide +kernel
theorem dX3_lookAt_12 : decode cX3_lookAt 12 = .ok (.iload_n 3, 1) := by decide +kernel
theorem dX3_lookAt_13 : decode cX3_lookAt 13 = .ok (.invokestatic 38, 3) := by decide +kernel
theorem dX3_lookAt_16 : decode cX3_lookAt 16 = .ok (.istore 4, 2) := by decide +kernel
theorem dX3_lookAt_18 : decode cX3_lookAt 18 = .ok (.iload 4, 2) := by decide +kernel
theorem dX3_lookAt_20 : decode cX3_lookAt 20 = .ok (.bipush (-3), 2) := by decide +kernel
theorem dX3_lookAt_22 : decode cX3_lookAt 22 = .ok (.if_icmp .ne 6, 3) := by decide +kernel
theorem dX3_lookAt_25 : decode cX3_lookAt 25 = .ok (.goto 73, 3) := by decide +kernel
theorem dX3_lookAt_28 : decode cX3_lookAt 28 = .ok (.aload_n 0, 1) := by decide +kernel
theorem dX3_lookAt_29 : decode cX3_lookAt 29 = .ok (.dup, 1) := by decide +kernel
theorem dX3_lookAt_30 : decode cX3_lookAt 30 = .ok (.getfield 42, 3) := by decide +kernel
theorem dX3_lookAt_33 : decode cX3_lookAt 33 = .ok (.iconst 1, 1) := by decide +kernel
theorem dX3_lookAt_34 : decode cX3_lookAt 34 = .ok (.iload 4, 2) := by decide +kernel
theorem dX3_lookAt_36 : decode cX3_lookAt 36 = .ok (.ishl, 1) := by decide +kernel
theorem dX3_lookAt_37 : decode cX3_lookAt 37 = .ok (.ior, 1) := by decide +kernel
theorem dX3_lookAt_38 : decode cX3_lookAt 38 = .ok (.putfield 42, 3) := by decide +kernel
theorem dX3_lookAt_41 : decode cX3_lookAt 41 = .ok (.iload_n 2, 1) := by decide +kernel
theorem dX3_lookAt_42 : decode cX3_lookAt 42 = .ok (.bipush (-3), 2) := by decide +kernel
theorem dX3_lookAt_44 : decode cX3_lookAt 44 = .ok (.if_icmp .ne 19, 3) := by decide +kernel
theorem dX3_lookAt_47 : decode cX3_lookAt 47 = .ok (.aload_n 0, 1) := by decide +kernel
theorem dX3_lookAt_48 : decode cX3_lookAt 48 = .ok (.dup, 1) := by decide +kernel
theorem dX3_lookAt_49 : decode cX3_lookAt 49 = .ok (.getfield 45, 3) := by decide +kernel
theorem dX3_lookAt_52 : decode cX3_lookAt 52 = .ok (.iconst 1, 1) := by decide +kernel
theorem dX3_lookAt_53 : decode cX3_lookAt 53 = .ok (.iload 4, 2) := by decide +kernel
theorem dX3_lookAt_55 : decode cX3_lookAt 55 = .ok (.ishl, 1) := by decide +kernel
theorem dX3_lookAt_56 : decode cX3_lookAt 56 = .ok (.ior, 1) := by decide +kernel
theorem dX3_lookAt_57 : decode cX3_lookAt 57 = .ok (.putfield 45, 3) := by decide +kernel
theorem dX3_lookAt_60 : decode cX3_lookAt 60 = .ok (.goto 29, 3) := by decide +kernel
theorem dX3_lookAt_63 : decode cX3_lookAt 63 = .ok (.aload_n 0, 1) := by decide +kernel
theorem dX3_lookAt_64 : decode cX3_lookAt 64 = .ok (.getfield 15, 3) := by decide +kernel
theorem dX3_lookAt_67 : decode cX3_lookAt 67 = .ok (.iload_n 2, 1) := by decide +kernel
theorem dX3_lookAt_68 : decode cX3_lookAt 68 = .ok (.dup2, 1) := by decide +kernel
theorem dX3_lookAt_69 : decode cX3_lookAt 69 = .ok (.iaload, 1) := by decide +kernel
theorem dX3_lookAt_70 : decode cX3_lookAt 70 = .ok (.iconst 1, 1) := by decide +kernel
theorem dX3_lookAt_71 : decode cX3_lookAt 71 = .ok (.iload 4, 2) := by decide +kernel
theorem dX3_lookAt_73 : decode cX3_lookAt 73 = .ok (.ishl, 1) := by decide +kernel
theorem dX3_lookAt_74 : decode cX3_lookAt 74 = .ok (.ior, 1) := by decide +kernel
theorem dX3_lookAt_75 : decode cX3_lookAt 75 = .ok (.iastore, 1) := by decide +kernel
theorem dX3_lookAt_76 : decode cX3_lookAt 76 = .ok (.aload_n 0, 1) := by decide +kernel
theorem dX3_lookAt_77 : decode cX3_lookAt 77 = .ok (.getfield 18, 3) := by decide +kernel
theorem dX3_lookAt_80 : decode cX3_lookAt 80 = .ok (.iload 4, 2) := by decide +kernel
theorem dX3_lookAt_82 : decode cX3_lookAt 82 = .ok (.dup2, 1) := by decide +kernel
theorem dX3_lookAt_83 : decode cX3_lookAt 83 = .ok (.iaload, 1) := by decide +kernel
theorem dX3_lookAt_84 : decode cX3_lookAt 84 = .ok (.iconst 1, 1) := by decide +kernel
theorem dX3_lookAt_85 : decode cX3_lookAt 85 = .ok (.iload_n 2, 1) := by decide +kernel
theorem dX3_lookAt_86 : decode cX3_lookAt 86 = .ok (.ishl, 1) := by decide +kernel
theorem dX3_lookAt_87 : decode cX3_lookAt 87 = .ok (.ior, 1) := by decide +kernel
theorem dX3_lookAt_88 : decode cX3_lookAt 88 = .ok (.iastore, 1) := by decide +kernel
theorem dX3_lookAt_89 : decode cX3_lookAt 89 = .ok (.iload 4, 2) := by decide +kernel
theorem dX3_lookAt_91 : decode cX3_lookAt 91 = .ok (.istore_n 2, 1) := by decide +kernel
theorem dX3_lookAt_92 : decode cX3_lookAt 92 = .ok (.iinc 3 1, 3) := by decide +kernel
theorem dX3_lookAt_95 : decode cX3_lookAt 95 = .ok (.goto (-90), 3) := by decide +kernel
theorem dX3_lookAt_98 : decode cX3_lookAt 98 = .ok (.iload_n 2, 1) := by decide +kernel
theorem dX3_lookAt_99 : decode cX3_lookAt 99 = .ok (.bipush (-3), 2) := by decide +kernel
theorem dX3_lookAt_101 : decode cX3_lookAt 101 = .ok (.if_icmp .eq 15, 3) := by decide +kernel
theorem dX3_lookAt_104 : decode cX3_lookAt 104 = .ok (.aload_n 0, 1) := by decide +kernel
theorem dX3_lookAt_105 : decode cX3_lookAt 105 = .ok (.dup, 1) := by decide +kernel
theorem dX3_lookAt_106 : decode cX3_lookAt 106 = .ok (.getfield 48, 3) := by decide +kernel
theorem dX3_lookAt_109 : decode cX3_lookAt 109 = .ok (.iconst 1, 1) := by decide +kernel
theorem dX3_lookAt_110 : decode cX3_lookAt 110 = .ok (.iload_n 2, 1) := by decide +kernel
theorem dX3_lookAt_111 : decode cX3_lookAt 111 = .ok (.ishl, 1) := by decide +kernel
theorem dX3_lookAt_112 : decode cX3_lookAt 112 = .ok (.ior, 1) := by decide +kernel
theorem dX3_lookAt_113 : decode cX3_lookAt 113 = .ok (.putfield 48, 3) := by decide +kernel
theorem dX3_lookAt_116 : decode cX3_lookAt 116 = .ok (.return_, 1) := by decide +kernel
theorem dX3_takeFrom_0 : decode cX3_takeFrom 0 = .ok (.aload_n 0, 1) := by decide +kernel
theorem dX3_takeFrom_1 : decode cX3_takeFrom 1 = .ok (.iconst 0, 1) := by decide +kernel
theorem dX3_takeFrom_2 : decode cX3_takeFrom 2 = .ok (.putfield 30, 3) := by decide +kernel
theorem dX3_takeFrom_5 : decode cX3_takeFrom 5 = .ok (.iconst 0, 1) := by decide +kernel
theorem dX3_takeFrom_6 : decode cX3_takeFrom 6 = .ok (.istore 4, 2) := by decide +kernel
theorem dX3_takeFrom_8 : decode cX3_takeFrom 8 = .ok (.iload 4, 2) := by decide +kernel
theorem dX3_takeFrom_10 : decode cX3_takeFrom 10 = .ok (.aload_n 1, 1) := by decide +kernel
theorem dX3_takeFrom_11 : decode cX3_takeFrom 11 = .ok (.getfield 30, 3) := by decide +kernel
theorem dX3_takeFrom_14 : decode cX3_takeFrom 14 = .ok (.if_icmp .ge 57, 3) := by decide +kernel
theorem dX3_takeFrom_17 : decode cX3_takeFrom 17 = .ok (.aload_n 1, 1) := by decide +kernel
theorem dX3_takeFrom_18 : decode cX3_takeFrom 18 = .ok (.getfield 9, 3) := by decide +kernel
theorem dX3_takeFrom_21 : decode cX3_takeFrom 21 = .ok (.iload 4, 2) := by decide +kernel
theorem dX3_takeFrom_23 : decode cX3_takeFrom 23 = .ok (.iaload, 1) := by decide +kernel
theorem dX3_takeFrom_24 : decode cX3_takeFrom 24 = .ok (.istore 5, 2) := by decide +kernel
theorem dX3_takeFrom_26 : decode cX3_takeFrom 26 = .ok (.iload 5, 2) := by decide +kernel
theorem dX3_takeFrom_28 : decode cX3_takeFrom 28 = .ok (.iload_n 2, 1) := by decide +kernel
theorem dX3_takeFrom_29 : decode cX3_takeFrom 29 = .ok (.invokestatic 60, 3) := by decide +kernel
theorem dX3_takeFrom_32 : decode cX3_takeFrom 32 = .ok (.istore 6, 2) := by decide +kernel
theorem dX3_takeFrom_34 : decode cX3_takeFrom 34 = .ok (.iload_n 3, 1) := by decide +kernel
theorem dX3_takeFrom_35 : decode cX3_takeFrom 35 = .ok (.iconst 5, 1) := by decide +kernel
theorem dX3_takeFrom_36 : decode cX3_takeFrom 36 = .ok (.if_icmp .ne 13, 3) := by decide +kernel
theorem dX3_takeFrom_39 : decode cX3_takeFrom 39 = .ok (.aload_n 0, 1) := by decide +kernel
theorem dX3_takeFrom_40 : decode cX3_takeFrom 40 = .ok (.iload 5, 2) := by decide +kernel
theorem dX3_takeFrom_42 : decode cX3_takeFrom 42 = .ok (.iload_n 2, 1) := by decide +kernel
theorem dX3_takeFrom_43 : decode cX3_takeFrom 43 = .ok (.invokevirtual 63, 3) := by decide +kernel
theorem dX3_takeFrom_46 : decode cX3_takeFrom 46 = .ok (.goto 19, 3) := by decide +kernel
theorem dX3_takeFrom_49 : decode cX3_takeFrom 49 = .ok (.iload_n 3, 1) := by decide +kernel
theorem dX3_takeFrom_50 : decode cX3_takeFrom 50 = .ok (.iconst 3, 1) := by decide +kernel
theorem dX3_takeFrom_51 : decode cX3_takeFrom 51 = .ok (.if_icmp .ne 8, 3) := by decide +kernel
theorem dX3_takeFrom_54 : decode cX3_takeFrom 54 = .ok (.iload 6, 2) := by decide +kernel
theorem dX3_takeFrom_56 : decode cX3_takeFrom 56 = .ok (.ifCond .eq 9, 3) := by decide +kernel
theorem dX3_takeFrom_59 : decode cX3_takeFrom 59 = .ok (.aload_n 0, 1) := by decide +kernel
theorem dX3_takeFrom_60 : decode cX3_takeFrom 60 = .ok (.iload 6, 2) := by decide +kernel
theorem dX3_takeFrom_62 : decode cX3_takeFrom 62 = .ok (.invokevirtual 34, 3) := by decide +kernel
theorem dX3_takeFrom_65 : decode cX3_takeFrom 65 = .ok (.iinc 4 1, 3) := by decide +kernel
theorem dX3_takeFrom_68 : decode cX3_takeFrom 68 = .ok (.goto (-60), 3) := by decide +kernel
theorem dX3_takeFrom_71 : decode cX3_takeFrom 71 = .ok (.return_, 1) := by decide +kernel
theorem dX3_within_0 : decode cX3_within 0 = .ok (.iconst 0, 1) := by decide +kernel
theorem dX3_within_1 : decode cX3_within 1 = .ok (.istore_n 2, 1) := by decide +kernel
theorem dX3_within_2 : decode cX3_within 2 = .ok (.iconst 0, 1) := by decide +kernel
theorem dX3_within_3 : decode cX3_within 3 = .ok (.istore_n 3, 1) := by decide +kernel
theorem dX3_within_4 : decode cX3_within 4 = .ok (.iconst 0, 1) := by decide +kernel
theorem dX3_within_5 : decode cX3_within 5 = .ok (.istore 4, 2) := by decide +kernel
theorem dX3_within_7 : decode cX3_within 7 = .ok (.iload 4, 2) := by decide +kernel
theorem dX3_within_9 : decode cX3_within 9 = .ok (.bipush 6, 2) := by decide +kernel
theorem dX3_within_11 : decode cX3_within 11 = .ok (.if_icmp .ge 53, 3) := by decide +kernel
theorem dX3_within_14 : decode cX3_within 14 = .ok (.iload_n 0, 1) := by decide +kernel
theorem dX3_within_15 : decode cX3_within 15 = .ok (.iload 4, 2) := by decide +kernel
theorem dX3_within_17 : decode cX3_within 17 = .ok (.invokestatic 38, 3) := by decide +kernel
theorem dX3_within_20 : decode cX3_within 20 = .ok (.istore 5, 2) := by decide +kernel
theorem dX3_within_22 : decode cX3_within 22 = .ok (.iload 5, 2) := by decide +kernel
theorem dX3_within_24 : decode cX3_within 24 = .ok (.bipush (-3), 2) := by decide +kernel
theorem dX3_within_26 : decode cX3_within 26 = .ok (.if_icmp .ne 6, 3) := by decide +kernel
theorem dX3_within_29 : decode cX3_within 29 = .ok (.goto 35, 3) := by decide +kernel
theorem dX3_within_32 : decode cX3_within 32 = .ok (.iload_n 1, 1) := by decide +kernel
theorem dX3_within_33 : decode cX3_within 33 = .ok (.iconst 1, 1) := by decide +kernel
theorem dX3_within_34 : decode cX3_within 34 = .ok (.iload 5, 2) := by decide +kernel
theorem dX3_within_36 : decode cX3_within 36 = .ok (.ishl, 1) := by decide +kernel
theorem dX3_within_37 : decode cX3_within 37 = .ok (.iand, 1) := by decide +kernel
theorem dX3_within_38 : decode cX3_within 38 = .ok (.ifCond .ne 6, 3) := by decide +kernel
theorem dX3_within_41 : decode cX3_within 41 = .ok (.goto 17, 3) := by decide +kernel
theorem dX3_within_44 : decode cX3_within 44 = .ok (.iload_n 2, 1) := by decide +kernel
theorem dX3_within_45 : decode cX3_within 45 = .ok (.iload 5, 2) := by decide +kernel
theorem dX3_within_47 : decode cX3_within 47 = .ok (.iconst 1, 1) := by decide +kernel
theorem dX3_within_48 : decode cX3_within 48 = .ok (.iadd, 1) := by decide +kernel
theorem dX3_within_49 : decode cX3_within 49 = .ok (.iload_n 3, 1) := by decide +kernel
theorem dX3_within_50 : decode cX3_within 50 = .ok (.iconst 4, 1) := by decide +kernel
theorem dX3_within_51 : decode cX3_within 51 = .ok (.imul, 1) := by decide +kernel
theorem dX3_within_52 : decode cX3_within 52 = .ok (.ishl, 1) := by decide +kernel
theorem dX3_within_53 : decode cX3_within 53 = .ok (.ior, 1) := by decide +kernel
theorem dX3_within_54 : decode cX3_within 54 = .ok (.istore_n 2, 1) := by decide +kernel
theorem dX3_within_55 : decode cX3_within 55 = .ok (.iinc 3 1, 3) := by decide +kernel
theorem dX3_within_58 : decode cX3_within 58 = .ok (.iinc 4 1, 3) := by decide +kernel
theorem dX3_within_61 : decode cX3_within 61 = .ok (.goto (-54), 3) := by decide +kernel
theorem dX3_within_64 : decode cX3_within 64 = .ok (.iload_n 2, 1) := by decide +kernel
theorem dX3_within_65 : decode cX3_within 65 = .ok (.ireturn, 1) := by decide +kernel
theorem dX3_putStretches_0 : decode cX3_putStretches 0 = .ok (.iconst 0, 1) := by decide +kernel
theorem dX3_putStretches_1 : decode cX3_putStretches 1 = .ok (.istore_n 3, 1) := by decide +kernel
theorem dX3_putStretches_2 : decode cX3_putStretches 2 = .ok (.iconst 0, 1) := by decide +kernel
theorem dX3_putStretches_3 : decode cX3_putStretches 3 = .ok (.istore 4, 2) := by decide +kernel
theorem dX3_putStretches_5 : decode cX3_putStretches 5 = .ok (.iconst 0, 1) := by decide +kernel
theorem dX3_putStretches_6 : decode cX3_putStretches 6 = .ok (.istore 5, 2) := by decide +kernel
theorem dX3_putStretches_8 : decode cX3_putStretches 8 = .ok (.iload 5, 2) := by decide +kernel
theorem dX3_putStretches_10 : decode cX3_putStretches 10 = .ok (.bipush 6, 2) := by decide +kernel
theorem dX3_putStretches_12 : decode cX3_putStretches 12 = .ok (.if_icmp .gt 66, 3) := by decide +kernel
theorem dX3_putStretches_15 : decode cX3_putStretches 15 = .ok (.iload_n 1, 1) := by decide +kernel
theorem dX3_putStretches_16 : decode cX3_putStretches 16 = .ok (.iload 5, 2) := by decide +kernel
theorem dX3_putStretches_18 : decode cX3_putStretches 18 = .ok (.invokestatic 38, 3) := by decide +kernel
theorem dX3_putStretches_21 : decode cX3_putStretches 21 = .ok (.istore 6, 2) := by decide +kernel
theorem dX3_putStretches_23 : decode cX3_putStretches 23 = .ok (.iload 6, 2) := by decide +kernel
theorem dX3_putStretches_25 : decode cX3_putStretches 25 = .ok (.bipush (-3), 2) := by decide +kernel
theorem dX3_putStretches_27 : decode cX3_putStretches 27 = .ok (.if_icmp .eq 30, 3) := by decide +kernel
theorem dX3_putStretches_30 : decode cX3_putStretches 30 = .ok (.iload_n 2, 1) := by decide +kernel
theorem dX3_putStretches_31 : decode cX3_putStretches 31 = .ok (.iconst 1, 1) := by decide +kernel
theorem dX3_putStretches_32 : decode cX3_putStretches 32 = .ok (.iload 6, 2) := by decide +kernel
theorem dX3_putStretches_34 : decode cX3_putStretches 34 = .ok (.ishl, 1) := by decide +kernel
theorem dX3_putStretches_35 : decode cX3_putStretches 35 = .ok (.iand, 1) := by decide +kernel
theorem dX3_putStretches_36 : decode cX3_putStretches 36 = .ok (.ifCond .eq 21, 3) := by decide +kernel
theorem dX3_putStretches_39 : decode cX3_putStretches 39 = .ok (.iload_n 3, 1) := by decide +kernel
theorem dX3_putStretches_40 : decode cX3_putStretches 40 = .ok (.iload 6, 2) := by decide +kernel
theorem dX3_putStretches_42 : decode cX3_putStretches 42 = .ok (.iconst 1, 1) := by decide +kernel
theorem dX3_putStretches_43 : decode cX3_putStretches 43 = .ok (.iadd, 1) := by decide +kernel
theorem dX3_putStretches_44 : decode cX3_putStretches 44 = .ok (.iload 4, 2) := by decide +kernel
theorem dX3_putStretches_46 : decode cX3_putStretches 46 = .ok (.iconst 4, 1) := by decide +kernel
theorem dX3_putStretches_47 : decode cX3_putStretches 47 = .ok (.imul, 1) := by decide +kernel
theorem dX3_putStretches_48 : decode cX3_putStretches 48 = .ok (.ishl, 1) := by decide +kernel
theorem dX3_putStretches_49 : decode cX3_putStretches 49 = .ok (.ior, 1) := by decide +kernel
theorem dX3_putStretches_50 : decode cX3_putStretches 50 = .ok (.istore_n 3, 1) := by decide +kernel
theorem dX3_putStretches_51 : decode cX3_putStretches 51 = .ok (.iinc 4 1, 3) := by decide +kernel
theorem dX3_putStretches_54 : decode cX3_putStretches 54 = .ok (.goto 18, 3) := by decide +kernel
theorem dX3_putStretches_57 : decode cX3_putStretches 57 = .ok (.iload 4, 2) := by decide +kernel
theorem dX3_putStretches_59 : decode cX3_putStretches 59 = .ok (.ifCond .le 8, 3) := by decide +kernel
theorem dX3_putStretches_62 : decode cX3_putStretches 62 = .ok (.aload_n 0, 1) := by decide +kernel
theorem dX3_putStretches_63 : decode cX3_putStretches 63 = .ok (.iload_n 3, 1) := by decide +kernel
theorem dX3_putStretches_64 : decode cX3_putStretches 64 = .ok (.invokevirtual 34, 3) := by decide +kernel
theorem dX3_putStretches_67 : decode cX3_putStretches 67 = .ok (.iconst 0, 1) := by decide +kernel
theorem dX3_putStretches_68 : decode cX3_putStretches 68 = .ok (.istore_n 3, 1) := by decide +kernel
theorem dX3_putStretches_69 : decode cX3_putStretches 69 = .ok (.iconst 0, 1) := by decide +kernel
theorem dX3_putStretches_70 : decode cX3_putStretches 70 = .ok (.istore 4, 2) := by decide +kernel
theorem dX3_putStretches_72 : decode cX3_putStretches 72 = .ok (.iinc 5 1, 3) := by decide +kernel
theorem dX3_putStretches_75 : decode cX3_putStretches 75 = .ok (.goto (-67), 3) := by decide +kernel
theorem dX3_putStretches_78 : decode cX3_putStretches 78 = .ok (.return_, 1) := by decide +kernel
theorem dX3_cutsTo_0 : decode cX3_cutsTo 0 = .ok (.aload_n 0, 1) := by decide +kernel
theorem dX3_cutsTo_1 : decode cX3_cutsTo 1 = .ok (.invokevirtual 67, 3) := by decide +kernel
theorem dX3_cutsTo_4 : decode cX3_cutsTo 4 = .ok (.ifCond .eq 5, 3) := by decide +kernel
theorem dX3_cutsTo_7 : decode cX3_cutsTo 7 = .ok (.iconst 3, 1) := by decide +kernel
theorem dX3_cutsTo_8 : decode cX3_cutsTo 8 = .ok (.ireturn, 1) := by decide +kernel
theorem dX3_cutsTo_9 : decode cX3_cutsTo 9 = .ok (.aload_n 0, 1) := by decide +kernel
theorem dX3_cutsTo_10 : decode cX3_cutsTo 10 = .ok (.invokevirtual 71, 3) := by decide +kernel
theorem dX3_cutsTo_13 : decode cX3_cutsTo 13 = .ok (.ifCond .eq 5, 3) := by decide +kernel
theorem dX3_cutsTo_16 : decode cX3_cutsTo 16 = .ok (.iconst 2, 1) := by decide +kernel
theorem dX3_cutsTo_17 : decode cX3_cutsTo 17 = .ok (.ireturn, 1) := by decide +kernel
theorem dX3_cutsTo_18 : decode cX3_cutsTo 18 = .ok (.aload_n 0, 1) := by decide +kernel
theorem dX3_cutsTo_19 : decode cX3_cutsTo 19 = .ok (.invokevirtual 74, 3) := by decide +kernel
theorem dX3_cutsTo_22 : decode cX3_cutsTo 22 = .ok (.ifCond .eq 5, 3) := by decide +kernel
theorem dX3_cutsTo_25 : decode cX3_cutsTo 25 = .ok (.iconst 4, 1) := by decide +kernel
theorem dX3_cutsTo_26 : decode cX3_cutsTo 26 = .ok (.ireturn, 1) := by decide +kernel
theorem dX3_cutsTo_27 : decode cX3_cutsTo 27 = .ok (.aload_n 0, 1) := by decide +kernel
theorem dX3_cutsTo_28 : decode cX3_cutsTo 28 = .ok (.invokevirtual 77, 3) := by decide +kernel
theorem dX3_cutsTo_31 : decode cX3_cutsTo 31 = .ok (.ifCond .eq 5, 3) := by decide +kernel
theorem dX3_cutsTo_34 : decode cX3_cutsTo 34 = .ok (.iconst 5, 1) := by decide +kernel
theorem dX3_cutsTo_35 : decode cX3_cutsTo 35 = .ok (.ireturn, 1) := by decide +kernel
theorem dX3_cutsTo_36 : decode cX3_cutsTo 36 = .ok (.bipush (-3), 2) := by decide +kernel
theorem dX3_cutsTo_38 : decode cX3_cutsTo 38 = .ok (.ireturn, 1) := by decide +kernel
theorem dX3_partByNear_0 : decode cX3_partByNear 0 = .ok (.aload_n 0, 1) := by decide +kernel
theorem dX3_partByNear_1 : decode cX3_partByNear 1 = .ok (.iconst 0, 1) := by decide +kernel
theorem dX3_partByNear_2 : decode cX3_partByNear 2 = .ok (.putfield 80, 3) := by decide +kernel
theorem dX3_partByNear_5 : decode cX3_partByNear 5 = .ok (.iload_n 1, 1) := by decide +kernel
theorem dX3_partByNear_6 : decode cX3_partByNear 6 = .ok (.istore_n 2, 1) := by decide +kernel
theorem dX3_partByNear_7 : decode cX3_partByNear 7 = .ok (.iconst 0, 1) := by decide +kernel
theorem dX3_partByNear_8 : decode cX3_partByNear 8 = .ok (.istore_n 3, 1) := by decide +kernel
theorem dX3_partByNear_9 : decode cX3_partByNear 9 = .ok (.iload_n 3, 1) := by decide +kernel
theorem dX3_partByNear_10 : decode cX3_partByNear 10 = .ok (.bipush 12, 2) := by decide +kernel
theorem dX3_partByNear_12 : decode cX3_partByNear 12 = .ok (.if_icmp .ge 74, 3) := by decide +kernel
theorem dX3_partByNear_15 : decode cX3_partByNear 15 = .ok (.iload_n 2, 1) := by decide +kernel
theorem dX3_partByNear_16 : decode cX3_partByNear 16 = .ok (.iconst 1, 1) := by decide +kernel
theorem dX3_partByNear_17 : decode cX3_partByNear 17 = .ok (.iload_n 3, 1) := by decide +kernel
theorem dX3_partByNear_18 : decode cX3_partByNear 18 = .ok (.ishl, 1) := by decide +kernel
theorem dX3_partByNear_19 : decode cX3_partByNear 19 = .ok (.iand, 1) := by decide +kernel
theorem dX3_partByNear_20 : decode cX3_partByNear 20 = .ok (.ifCond .eq 60, 3) := by decide +kernel
theorem dX3_partByNear_23 : decode cX3_partByNear 23 = .ok (.aload_n 0, 1) := by decide +kernel
theorem dX3_partByNear_24 : decode cX3_partByNear 24 = .ok (.getfield 80, 3) := by decide +kernel
theorem dX3_partByNear_27 : decode cX3_partByNear 27 = .ok (.aload_n 0, 1) := by decide +kernel
theorem dX3_partByNear_28 : decode cX3_partByNear 28 = .ok (.getfield 27, 3) := by decide +kernel
theorem dX3_partByNear_31 : decode cX3_partByNear 31 = .ok (.arraylength, 1) := by decide +kernel
theorem dX3_partByNear_32 : decode cX3_partByNear 32 = .ok (.if_icmp .lt 6, 3) := by decide +kernel
theorem dX3_partByNear_35 : decode cX3_partByNear 35 = .ok (.goto 45, 3) := by decide +kernel
theorem dX3_partByNear_38 : decode cX3_partByNear 38 = .ok (.iconst 1, 1) := by decide +kernel
theorem dX3_partByNear_39 : decode cX3_partByNear 39 = .ok (.iload_n 3, 1) := by decide +kernel
theorem dX3_partByNear_40 : decode cX3_partByNear 40 = .ok (.ishl, 1) := by decide +kernel
theorem dX3_partByNear_41 : decode cX3_partByNear 41 = .ok (.aload_n 0, 1) := by decide +kernel
theorem dX3_partByNear_42 : decode cX3_partByNear 42 = .ok (.getfield 21, 3) := by decide +kernel
theorem dX3_partByNear_45 : decode cX3_partByNear 45 = .ok (.invokestatic 83, 3) := by decide +kernel
theorem dX3_partByNear_48 : decode cX3_partByNear 48 = .ok (.iload_n 1, 1) := by decide +kernel
theorem dX3_partByNear_49 : decode cX3_partByNear 49 = .ok (.iand, 1) := by decide +kernel
theorem dX3_partByNear_50 : decode cX3_partByNear 50 = .ok (.istore 4, 2) := by decide +kernel
theorem dX3_partByNear_52 : decode cX3_partByNear 52 = .ok (.aload_n 0, 1) := by decide +kernel
theorem dX3_partByNear_53 : decode cX3_partByNear 53 = .ok (.getfield 27, 3) := by decide +kernel
theorem dX3_partByNear_56 : decode cX3_partByNear 56 = .ok (.aload_n 0, 1) := by decide +kernel
theorem dX3_partByNear_57 : decode cX3_partByNear 57 = .ok (.getfield 80, 3) := by decide +kernel
theorem dX3_partByNear_60 : decode cX3_partByNear 60 = .ok (.iload 4, 2) := by decide +kernel
theorem dX3_partByNear_62 : decode cX3_partByNear 62 = .ok (.iastore, 1) := by decide +kernel
theorem dX3_partByNear_63 : decode cX3_partByNear 63 = .ok (.aload_n 0, 1) := by decide +kernel
theorem dX3_partByNear_64 : decode cX3_partByNear 64 = .ok (.dup, 1) := by decide +kernel
theorem dX3_partByNear_65 : decode cX3_partByNear 65 = .ok (.getfield 80, 3) := by decide +kernel
theorem dX3_partByNear_68 : decode cX3_partByNear 68 = .ok (.iconst 1, 1) := by decide +kernel
theorem dX3_partByNear_69 : decode cX3_partByNear 69 = .ok (.iadd, 1) := by decide +kernel
theorem dX3_partByNear_70 : decode cX3_partByNear 70 = .ok (.putfield 80, 3) := by decide +kernel
theorem dX3_partByNear_73 : decode cX3_partByNear 73 = .ok (.iload_n 2, 1) := by decide +kernel
theorem dX3_partByNear_74 : decode cX3_partByNear 74 = .ok (.iload 4, 2) := by decide +kernel
theorem dX3_partByNear_76 : decode cX3_partByNear 76 = .ok (.iconst (-1), 1) := by decide +kernel
theorem dX3_partByNear_77 : decode cX3_partByNear 77 = .ok (.ixor, 1) := by decide +kernel
theorem dX3_partByNear_78 : decode cX3_partByNear 78 = .ok (.iand, 1) := by decide +kernel
theorem dX3_partByNear_79 : decode cX3_partByNear 79 = .ok (.istore_n 2, 1) := by decide +kernel
theorem dX3_partByNear_80 : decode cX3_partByNear 80 = .ok (.iinc 3 1, 3) := by decide +kernel
theorem dX3_partByNear_83 : decode cX3_partByNear 83 = .ok (.goto (-74), 3) := by decide +kernel
theorem dX3_partByNear_86 : decode cX3_partByNear 86 = .ok (.return_, 1) := by decide +kernel
theorem dX3_closed_0 : decode cX3_closed 0 = .ok (.iload_n 0, 1) := by decide +kernel
theorem dX3_closed_1 : decode cX3_closed 1 = .ok (.istore_n 2, 1) := by decide +kernel
theorem dX3_closed_2 : decode cX3_closed 2 = .ok (.iconst 0, 1) := by decide +kernel
theorem dX3_closed_3 : decode cX3_closed 3 = .ok (.istore_n 3, 1) := by decide +kernel
theorem dX3_closed_4 : decode cX3_closed 4 = .ok (.iload_n 3, 1) := by decide +kernel
theorem dX3_closed_5 : decode cX3_closed 5 = .ok (.bipush 12, 2) := by decide +kernel
theorem dX3_closed_7 : decode cX3_closed 7 = .ok (.if_icmp .ge 48, 3) := by decide +kernel
theorem dX3_closed_10 : decode cX3_closed 10 = .ok (.iconst 0, 1) := by decide +kernel
theorem dX3_closed_11 : decode cX3_closed 11 = .ok (.istore 4, 2) := by decide +kernel
theorem dX3_closed_13 : decode cX3_closed 13 = .ok (.iload 4, 2) := by decide +kernel
theorem dX3_closed_15 : decode cX3_closed 15 = .ok (.bipush 12, 2) := by decide +kernel
theorem dX3_closed_17 : decode cX3_closed 17 = .ok (.if_icmp .ge 32, 3) := by decide +kernel
theorem dX3_closed_20 : decode cX3_closed 20 = .ok (.iload 4, 2) := by decide +kernel
theorem dX3_closed_22 : decode cX3_closed 22 = .ok (.aload_n 1, 1) := by decide +kernel
theorem dX3_closed_23 : decode cX3_closed 23 = .ok (.arraylength, 1) := by decide +kernel
theorem dX3_closed_24 : decode cX3_closed 24 = .ok (.if_icmp .ge 25, 3) := by decide +kernel
theorem dX3_closed_27 : decode cX3_closed 27 = .ok (.iload_n 2, 1) := by decide +kernel
theorem dX3_closed_28 : decode cX3_closed 28 = .ok (.iconst 1, 1) := by decide +kernel
theorem dX3_closed_29 : decode cX3_closed 29 = .ok (.iload 4, 2) := by decide +kernel
theorem dX3_closed_31 : decode cX3_closed 31 = .ok (.ishl, 1) := by decide +kernel
theorem dX3_closed_32 : decode cX3_closed 32 = .ok (.iand, 1) := by decide +kernel
theorem dX3_closed_33 : decode cX3_closed 33 = .ok (.ifCond .eq 10, 3) := by decide +kernel
theorem dX3_closed_36 : decode cX3_closed 36 = .ok (.iload_n 2, 1) := by decide +kernel
theorem dX3_closed_37 : decode cX3_closed 37 = .ok (.aload_n 1, 1) := by decide +kernel
theorem dX3_closed_38 : decode cX3_closed 38 = .ok (.iload 4, 2) := by decide +kernel
theorem dX3_closed_40 : decode cX3_closed 40 = .ok (.iaload, 1) := by decide +kernel
theorem dX3_closed_41 : decode cX3_closed 41 = .ok (.ior, 1) := by decide +kernel
theorem dX3_closed_42 : decode cX3_closed 42 = .ok (.istore_n 2, 1) := by decide +kernel
theorem dX3_closed_43 : decode cX3_closed 43 = .ok (.iinc 4 1, 3) := by decide +kernel
theorem dX3_closed_46 : decode cX3_closed 46 = .ok (.goto (-33), 3) := by decide +kernel
theorem dX3_closed_49 : decode cX3_closed 49 = .ok (.iinc 3 1, 3) := by decide +kernel
theorem dX3_closed_52 : decode cX3_closed 52 = .ok (.goto (-48), 3) := by decide +kernel
theorem dX3_closed_55 : decode cX3_closed 55 = .ok (.iload_n 2, 1) := by decide +kernel
theorem dX3_closed_56 : decode cX3_closed 56 = .ok (.ireturn, 1) := by decide +kernel
theorem dX3_cutsToChoice_0 : decode cX3_cutsToChoice 0 = .ok (.iconst 0, 1) := by decide +kernel
theorem dX3_cutsToChoice_1 : decode cX3_cutsToChoice 1 = .ok (.istore_n 1, 1) := by decide +kernel
theorem dX3_cutsToChoice_2 : decode cX3_cutsToChoice 2 = .ok (.iload_n 1, 1) := by decide +kernel
theorem dX3_cutsToChoice_3 : decode cX3_cutsToChoice 3 = .ok (.bipush 12, 2) := by decide +kernel
theorem dX3_cutsToChoice_5 : decode cX3_cutsToChoice 5 = .ok (.if_icmp .ge 28, 3) := by decide +kernel
theorem dX3_cutsToChoice_8 : decode cX3_cutsToChoice 8 = .ok (.aload_n 0, 1) := by decide +kernel
theorem dX3_cutsToChoice_9 : decode cX3_cutsToChoice 9 = .ok (.getfield 21, 3) := by decide +kernel
theorem dX3_cutsToChoice_12 : decode cX3_cutsToChoice 12 = .ok (.iload_n 1, 1) := by decide +kernel
theorem dX3_cutsToChoice_13 : decode cX3_cutsToChoice 13 = .ok (.aload_n 0, 1) := by decide +kernel
theorem dX3_cutsToChoice_14 : decode cX3_cutsToChoice 14 = .ok (.getfield 15, 3) := by decide +kernel
theorem dX3_cutsToChoice_17 : decode cX3_cutsToChoice 17 = .ok (.iload_n 1, 1) := by decide +kernel
theorem dX3_cutsToChoice_18 : decode cX3_cutsToChoice 18 = .ok (.iaload, 1) := by decide +kernel
theorem dX3_cutsToChoice_19 : decode cX3_cutsToChoice 19 = .ok (.aload_n 0, 1) := by decide +kernel
theorem dX3_cutsToChoice_20 : decode cX3_cutsToChoice 20 = .ok (.getfield 18, 3) := by decide +kernel
theorem dX3_cutsToChoice_23 : decode cX3_cutsToChoice 23 = .ok (.iload_n 1, 1) := by decide +kernel
theorem dX3_cutsToChoice_24 : decode cX3_cutsToChoice 24 = .ok (.iaload, 1) := by decide +kernel
theorem dX3_cutsToChoice_25 : decode cX3_cutsToChoice 25 = .ok (.ior, 1) := by decide +kernel
theorem dX3_cutsToChoice_26 : decode cX3_cutsToChoice 26 = .ok (.iastore, 1) := by decide +kernel
theorem dX3_cutsToChoice_27 : decode cX3_cutsToChoice 27 = .ok (.iinc 1 1, 3) := by decide +kernel
theorem dX3_cutsToChoice_30 : decode cX3_cutsToChoice 30 = .ok (.goto (-28), 3) := by decide +kernel
theorem dX3_cutsToChoice_33 : decode cX3_cutsToChoice 33 = .ok (.aload_n 0, 1) := by decide +kernel
theorem dX3_cutsToChoice_34 : decode cX3_cutsToChoice 34 = .ok (.aload_n 0, 1) := by decide +kernel
theorem dX3_cutsToChoice_35 : decode cX3_cutsToChoice 35 = .ok (.getfield 42, 3) := by decide +kernel
theorem dX3_cutsToChoice_38 : decode cX3_cutsToChoice 38 = .ok (.invokevirtual 87, 3) := by decide +kernel
theorem dX3_cutsToChoice_41 : decode cX3_cutsToChoice 41 = .ok (.aload_n 0, 1) := by decide +kernel
theorem dX3_cutsToChoice_42 : decode cX3_cutsToChoice 42 = .ok (.getfield 80, 3) := by decide +kernel
theorem dX3_cutsToChoice_45 : decode cX3_cutsToChoice 45 = .ok (.iconst 1, 1) := by decide +kernel
theorem dX3_cutsToChoice_46 : decode cX3_cutsToChoice 46 = .ok (.if_icmp .le 7, 3) := by decide +kernel
theorem dX3_cutsToChoice_49 : decode cX3_cutsToChoice 49 = .ok (.iconst 1, 1) := by decide +kernel
theorem dX3_cutsToChoice_50 : decode cX3_cutsToChoice 50 = .ok (.goto 4, 3) := by decide +kernel
theorem dX3_cutsToChoice_53 : decode cX3_cutsToChoice 53 = .ok (.iconst 0, 1) := by decide +kernel
theorem dX3_cutsToChoice_54 : decode cX3_cutsToChoice 54 = .ok (.ireturn, 1) := by decide +kernel
theorem dX3_cutsToRow_0 : decode cX3_cutsToRow 0 = .ok (.iconst 0, 1) := by decide +kernel
theorem dX3_cutsToRow_1 : decode cX3_cutsToRow 1 = .ok (.istore_n 1, 1) := by decide +kernel
theorem dX3_cutsToRow_2 : decode cX3_cutsToRow 2 = .ok (.iload_n 1, 1) := by decide +kernel
theorem dX3_cutsToRow_3 : decode cX3_cutsToRow 3 = .ok (.bipush 12, 2) := by decide +kernel
theorem dX3_cutsToRow_5 : decode cX3_cutsToRow 5 = .ok (.if_icmp .ge 28, 3) := by decide +kernel
theorem dX3_cutsToRow_8 : decode cX3_cutsToRow 8 = .ok (.aload_n 0, 1) := by decide +kernel
theorem dX3_cutsToRow_9 : decode cX3_cutsToRow 9 = .ok (.getfield 24, 3) := by decide +kernel
theorem dX3_cutsToRow_12 : decode cX3_cutsToRow 12 = .ok (.iload_n 1, 1) := by decide +kernel
theorem dX3_cutsToRow_13 : decode cX3_cutsToRow 13 = .ok (.aload_n 0, 1) := by decide +kernel
theorem dX3_cutsToRow_14 : decode cX3_cutsToRow 14 = .ok (.getfield 15, 3) := by decide +kernel
theorem dX3_cutsToRow_17 : decode cX3_cutsToRow 17 = .ok (.iload_n 1, 1) := by decide +kernel
theorem dX3_cutsToRow_18 : decode cX3_cutsToRow 18 = .ok (.iaload, 1) := by decide +kernel
theorem dX3_cutsToRow_19 : decode cX3_cutsToRow 19 = .ok (.aload_n 0, 1) := by decide +kernel
theorem dX3_cutsToRow_20 : decode cX3_cutsToRow 20 = .ok (.getfield 15, 3) := by decide +kernel
theorem dX3_cutsToRow_23 : decode cX3_cutsToRow 23 = .ok (.invokestatic 83, 3) := by decide +kernel
theorem dX3_cutsToRow_26 : decode cX3_cutsToRow 26 = .ok (.iastore, 1) := by decide +kernel
theorem dX3_cutsToRow_27 : decode cX3_cutsToRow 27 = .ok (.iinc 1 1, 3) := by decide +kernel
theorem dX3_cutsToRow_30 : decode cX3_cutsToRow 30 = .ok (.goto (-28), 3) := by decide +kernel
theorem dX3_cutsToRow_33 : decode cX3_cutsToRow 33 = .ok (.iconst 0, 1) := by decide +kernel
theorem dX3_cutsToRow_34 : decode cX3_cutsToRow 34 = .ok (.istore_n 1, 1) := by decide +kernel
theorem dX3_cutsToRow_35 : decode cX3_cutsToRow 35 = .ok (.iload_n 1, 1) := by decide +kernel
theorem dX3_cutsToRow_36 : decode cX3_cutsToRow 36 = .ok (.bipush 12, 2) := by decide +kernel
theorem dX3_cutsToRow_38 : decode cX3_cutsToRow 38 = .ok (.if_icmp .ge 92, 3) := by decide +kernel
theorem dX3_cutsToRow_41 : decode cX3_cutsToRow 41 = .ok (.aload_n 0, 1) := by decide +kernel
theorem dX3_cutsToRow_42 : decode cX3_cutsToRow 42 = .ok (.getfield 21, 3) := by decide +kernel
theorem dX3_cutsToRow_45 : decode cX3_cutsToRow 45 = .ok (.iload_n 1, 1) := by decide +kernel
theorem dX3_cutsToRow_46 : decode cX3_cutsToRow 46 = .ok (.iconst 0, 1) := by decide +kernel
theorem dX3_cutsToRow_47 : decode cX3_cutsToRow 47 = .ok (.iastore, 1) := by decide +kernel
theorem dX3_cutsToRow_48 : decode cX3_cutsToRow 48 = .ok (.iconst 0, 1) := by decide +kernel
theorem dX3_cutsToRow_49 : decode cX3_cutsToRow 49 = .ok (.istore_n 2, 1) := by decide +kernel
theorem dX3_cutsToRow_50 : decode cX3_cutsToRow 50 = .ok (.iload_n 2, 1) := by decide +kernel
theorem dX3_cutsToRow_51 : decode cX3_cutsToRow 51 = .ok (.bipush 12, 2) := by decide +kernel
theorem dX3_cutsToRow_53 : decode cX3_cutsToRow 53 = .ok (.if_icmp .ge 71, 3) := by decide +kernel
theorem dX3_cutsToRow_56 : decode cX3_cutsToRow 56 = .ok (.aload_n 0, 1) := by decide +kernel
theorem dX3_cutsToRow_57 : decode cX3_cutsToRow 57 = .ok (.getfield 24, 3) := by decide +kernel
theorem dX3_cutsToRow_60 : decode cX3_cutsToRow 60 = .ok (.iload_n 1, 1) := by decide +kernel
theorem dX3_cutsToRow_61 : decode cX3_cutsToRow 61 = .ok (.iaload, 1) := by decide +kernel
theorem dX3_cutsToRow_62 : decode cX3_cutsToRow 62 = .ok (.iconst 1, 1) := by decide +kernel
theorem dX3_cutsToRow_63 : decode cX3_cutsToRow 63 = .ok (.iload_n 2, 1) := by decide +kernel
theorem dX3_cutsToRow_64 : decode cX3_cutsToRow 64 = .ok (.ishl, 1) := by decide +kernel
theorem dX3_cutsToRow_65 : decode cX3_cutsToRow 65 = .ok (.iand, 1) := by decide +kernel
theorem dX3_cutsToRow_66 : decode cX3_cutsToRow 66 = .ok (.ifCond .eq 7, 3) := by decide +kernel
theorem dX3_cutsToRow_69 : decode cX3_cutsToRow 69 = .ok (.iconst 1, 1) := by decide +kernel
theorem dX3_cutsToRow_70 : decode cX3_cutsToRow 70 = .ok (.goto 4, 3) := by decide +kernel
theorem dX3_cutsToRow_73 : decode cX3_cutsToRow 73 = .ok (.iconst 0, 1) := by decide +kernel
theorem dX3_cutsToRow_74 : decode cX3_cutsToRow 74 = .ok (.istore_n 3, 1) := by decide +kernel
theorem dX3_cutsToRow_75 : decode cX3_cutsToRow 75 = .ok (.aload_n 0, 1) := by decide +kernel
theorem dX3_cutsToRow_76 : decode cX3_cutsToRow 76 = .ok (.getfield 24, 3) := by decide +kernel
theorem dX3_cutsToRow_79 : decode cX3_cutsToRow 79 = .ok (.iload_n 2, 1) := by decide +kernel
theorem dX3_cutsToRow_80 : decode cX3_cutsToRow 80 = .ok (.iaload, 1) := by decide +kernel
theorem dX3_cutsToRow_81 : decode cX3_cutsToRow 81 = .ok (.iconst 1, 1) := by decide +kernel
theorem dX3_cutsToRow_82 : decode cX3_cutsToRow 82 = .ok (.iload_n 1, 1) := by decide +kernel
theorem dX3_cutsToRow_83 : decode cX3_cutsToRow 83 = .ok (.ishl, 1) := by decide +kernel
theorem dX3_cutsToRow_84 : decode cX3_cutsToRow 84 = .ok (.iand, 1) := by decide +kernel
theorem dX3_cutsToRow_85 : decode cX3_cutsToRow 85 = .ok (.ifCond .eq 7, 3) := by decide +kernel
theorem dX3_cutsToRow_88 : decode cX3_cutsToRow 88 = .ok (.iconst 1, 1) := by decide +kernel
theorem dX3_cutsToRow_89 : decode cX3_cutsToRow 89 = .ok (.goto 4, 3) := by decide +kernel
theorem dX3_cutsToRow_92 : decode cX3_cutsToRow 92 = .ok (.iconst 0, 1) := by decide +kernel
theorem dX3_cutsToRow_93 : decode cX3_cutsToRow 93 = .ok (.istore 4, 2) := by decide +kernel
theorem dX3_cutsToRow_95 : decode cX3_cutsToRow 95 = .ok (.iload_n 3, 1) := by decide +kernel
theorem dX3_cutsToRow_96 : decode cX3_cutsToRow 96 = .ok (.iload 4, 2) := by decide +kernel
theorem dX3_cutsToRow_98 : decode cX3_cutsToRow 98 = .ok (.if_icmp .ne 20, 3) := by decide +kernel
theorem dX3_cutsToRow_101 : decode cX3_cutsToRow 101 = .ok (.aload_n 0, 1) := by decide +kernel
theorem dX3_cutsToRow_102 : decode cX3_cutsToRow 102 = .ok (.getfield 21, 3) := by decide +kernel
theorem dX3_cutsToRow_105 : decode cX3_cutsToRow 105 = .ok (.iload_n 1, 1) := by decide +kernel
theorem dX3_cutsToRow_106 : decode cX3_cutsToRow 106 = .ok (.dup2, 1) := by decide +kernel
theorem dX3_cutsToRow_107 : decode cX3_cutsToRow 107 = .ok (.iaload, 1) := by decide +kernel
theorem dX3_cutsToRow_108 : decode cX3_cutsToRow 108 = .ok (.aload_n 0, 1) := by decide +kernel
theorem dX3_cutsToRow_109 : decode cX3_cutsToRow 109 = .ok (.getfield 42, 3) := by decide +kernel
theorem dX3_cutsToRow_112 : decode cX3_cutsToRow 112 = .ok (.iconst 1, 1) := by decide +kernel
theorem dX3_cutsToRow_113 : decode cX3_cutsToRow 113 = .ok (.iload_n 2, 1) := by decide +kernel
theorem dX3_cutsToRow_114 : decode cX3_cutsToRow 114 = .ok (.ishl, 1) := by decide +kernel
theorem dX3_cutsToRow_115 : decode cX3_cutsToRow 115 = .ok (.iand, 1) := by decide +kernel
theorem dX3_cutsToRow_116 : decode cX3_cutsToRow 116 = .ok (.ior, 1) := by decide +kernel
theorem dX3_cutsToRow_117 : decode cX3_cutsToRow 117 = .ok (.iastore, 1) := by decide +kernel
theorem dX3_cutsToRow_118 : decode cX3_cutsToRow 118 = .ok (.iinc 2 1, 3) := by decide +kernel
theorem dX3_cutsToRow_121 : decode cX3_cutsToRow 121 = .ok (.goto (-71), 3) := by decide +kernel
theorem dX3_cutsToRow_124 : decode cX3_cutsToRow 124 = .ok (.iinc 1 1, 3) := by decide +kernel
theorem dX3_cutsToRow_127 : decode cX3_cutsToRow 127 = .ok (.goto (-92), 3) := by decide +kernel
theorem dX3_cutsToRow_130 : decode cX3_cutsToRow 130 = .ok (.aload_n 0, 1) := by decide +kernel
theorem dX3_cutsToRow_131 : decode cX3_cutsToRow 131 = .ok (.aload_n 0, 1) := by decide +kernel
theorem dX3_cutsToRow_132 : decode cX3_cutsToRow 132 = .ok (.getfield 42, 3) := by decide +kernel
theorem dX3_cutsToRow_135 : decode cX3_cutsToRow 135 = .ok (.invokevirtual 87, 3) := by decide +kernel
theorem dX3_cutsToRow_138 : decode cX3_cutsToRow 138 = .ok (.aload_n 0, 1) := by decide +kernel
theorem dX3_cutsToRow_139 : decode cX3_cutsToRow 139 = .ok (.invokevirtual 90, 3) := by decide +kernel
theorem dX3_cutsToRow_142 : decode cX3_cutsToRow 142 = .ok (.aload_n 0, 1) := by decide +kernel
theorem dX3_cutsToRow_143 : decode cX3_cutsToRow 143 = .ok (.getfield 80, 3) := by decide +kernel
theorem dX3_cutsToRow_146 : decode cX3_cutsToRow 146 = .ok (.iconst 1, 1) := by decide +kernel
theorem dX3_cutsToRow_147 : decode cX3_cutsToRow 147 = .ok (.if_icmp .le 7, 3) := by decide +kernel
theorem dX3_cutsToRow_150 : decode cX3_cutsToRow 150 = .ok (.iconst 1, 1) := by decide +kernel
theorem dX3_cutsToRow_151 : decode cX3_cutsToRow 151 = .ok (.goto 4, 3) := by decide +kernel
theorem dX3_cutsToRow_154 : decode cX3_cutsToRow 154 = .ok (.iconst 0, 1) := by decide +kernel
theorem dX3_cutsToRow_155 : decode cX3_cutsToRow 155 = .ok (.ireturn, 1) := by decide +kernel
theorem dX3_orderByReach_0 : decode cX3_orderByReach 0 = .ok (.iconst 1, 1) := by decide +kernel
theorem dX3_orderByReach_1 : decode cX3_orderByReach 1 = .ok (.istore_n 1, 1) := by decide +kernel
theorem dX3_orderByReach_2 : decode cX3_orderByReach 2 = .ok (.iload_n 1, 1) := by decide +kernel
theorem dX3_orderByReach_3 : decode cX3_orderByReach 3 = .ok (.aload_n 0, 1) := by decide +kernel
theorem dX3_orderByReach_4 : decode cX3_orderByReach 4 = .ok (.getfield 80, 3) := by decide +kernel
theorem dX3_orderByReach_7 : decode cX3_orderByReach 7 = .ok (.if_icmp .ge 65, 3) := by decide +kernel
theorem dX3_orderByReach_10 : decode cX3_orderByReach 10 = .ok (.aload_n 0, 1) := by decide +kernel
theorem dX3_orderByReach_11 : decode cX3_orderByReach 11 = .ok (.getfield 27, 3) := by decide +kernel
theorem dX3_orderByReach_14 : decode cX3_orderByReach 14 = .ok (.iload_n 1, 1) := by decide +kernel
theorem dX3_orderByReach_15 : decode cX3_orderByReach 15 = .ok (.iaload, 1) := by decide +kernel
theorem dX3_orderByReach_16 : decode cX3_orderByReach 16 = .ok (.istore_n 2, 1) := by decide +kernel
theorem dX3_orderByReach_17 : decode cX3_orderByReach 17 = .ok (.iload_n 1, 1) := by decide +kernel
theorem dX3_orderByReach_18 : decode cX3_orderByReach 18 = .ok (.istore_n 3, 1) := by decide +kernel
theorem dX3_orderByReach_19 : decode cX3_orderByReach 19 = .ok (.iload_n 3, 1) := by decide +kernel
theorem dX3_orderByReach_20 : decode cX3_orderByReach 20 = .ok (.ifCond .le 39, 3) := by decide +kernel
theorem dX3_orderByReach_23 : decode cX3_orderByReach 23 = .ok (.aload_n 0, 1) := by decide +kernel
theorem dX3_orderByReach_24 : decode cX3_orderByReach 24 = .ok (.iload_n 2, 1) := by decide +kernel
theorem dX3_orderByReach_25 : decode cX3_orderByReach 25 = .ok (.aload_n 0, 1) := by decide +kernel
theorem dX3_orderByReach_26 : decode cX3_orderByReach 26 = .ok (.getfield 27, 3) := by decide +kernel
theorem dX3_orderByReach_29 : decode cX3_orderByReach 29 = .ok (.iload_n 3, 1) := by decide +kernel
theorem dX3_orderByReach_30 : decode cX3_orderByReach 30 = .ok (.iconst 1, 1) := by decide +kernel
theorem dX3_orderByReach_31 : decode cX3_orderByReach 31 = .ok (.isub, 1) := by decide +kernel
theorem dX3_orderByReach_32 : decode cX3_orderByReach 32 = .ok (.iaload, 1) := by decide +kernel
theorem dX3_orderByReach_33 : decode cX3_orderByReach 33 = .ok (.invokevirtual 93, 3) := by decide +kernel
theorem dX3_orderByReach_36 : decode cX3_orderByReach 36 = .ok (.ifCond .eq 23, 3) := by decide +kernel
theorem dX3_orderByReach_39 : decode cX3_orderByReach 39 = .ok (.aload_n 0, 1) := by decide +kernel
theorem dX3_orderByReach_40 : decode cX3_orderByReach 40 = .ok (.getfield 27, 3) := by decide +kernel
theorem dX3_orderByReach_43 : decode cX3_orderByReach 43 = .ok (.iload_n 3, 1) := by decide +kernel
theorem dX3_orderByReach_44 : decode cX3_orderByReach 44 = .ok (.aload_n 0, 1) := by decide +kernel
theorem dX3_orderByReach_45 : decode cX3_orderByReach 45 = .ok (.getfield 27, 3) := by decide +kernel
theorem dX3_orderByReach_48 : decode cX3_orderByReach 48 = .ok (.iload_n 3, 1) := by decide +kernel
theorem dX3_orderByReach_49 : decode cX3_orderByReach 49 = .ok (.iconst 1, 1) := by decide +kernel
theorem dX3_orderByReach_50 : decode cX3_orderByReach 50 = .ok (.isub, 1) := by decide +kernel
theorem dX3_orderByReach_51 : decode cX3_orderByReach 51 = .ok (.iaload, 1) := by decide +kernel
theorem dX3_orderByReach_52 : decode cX3_orderByReach 52 = .ok (.iastore, 1) := by decide +kernel
theorem dX3_orderByReach_53 : decode cX3_orderByReach 53 = .ok (.iinc 3 (-1), 3) := by decide +kernel
theorem dX3_orderByReach_56 : decode cX3_orderByReach 56 = .ok (.goto (-37), 3) := by decide +kernel
theorem dX3_orderByReach_59 : decode cX3_orderByReach 59 = .ok (.aload_n 0, 1) := by decide +kernel
theorem dX3_orderByReach_60 : decode cX3_orderByReach 60 = .ok (.getfield 27, 3) := by decide +kernel
theorem dX3_orderByReach_63 : decode cX3_orderByReach 63 = .ok (.iload_n 3, 1) := by decide +kernel
theorem dX3_orderByReach_64 : decode cX3_orderByReach 64 = .ok (.iload_n 2, 1) := by decide +kernel
theorem dX3_orderByReach_65 : decode cX3_orderByReach 65 = .ok (.iastore, 1) := by decide +kernel
theorem dX3_orderByReach_66 : decode cX3_orderByReach 66 = .ok (.iinc 1 1, 3) := by decide +kernel
theorem dX3_orderByReach_69 : decode cX3_orderByReach 69 = .ok (.goto (-67), 3) := by decide +kernel
theorem dX3_orderByReach_72 : decode cX3_orderByReach 72 = .ok (.return_, 1) := by decide +kernel
theorem dX3_reaches_0 : decode cX3_reaches 0 = .ok (.iconst 0, 1) := by decide +kernel
theorem dX3_reaches_1 : decode cX3_reaches 1 = .ok (.istore_n 3, 1) := by decide +kernel
theorem dX3_reaches_2 : decode cX3_reaches 2 = .ok (.iload_n 3, 1) := by decide +kernel
theorem dX3_reaches_3 : decode cX3_reaches 3 = .ok (.bipush 12, 2) := by decide +kernel
theorem dX3_reaches_5 : decode cX3_reaches 5 = .ok (.if_icmp .ge 30, 3) := by decide +kernel
theorem dX3_reaches_8 : decode cX3_reaches 8 = .ok (.iload_n 1, 1) := by decide +kernel
theorem dX3_reaches_9 : decode cX3_reaches 9 = .ok (.iconst 1, 1) := by decide +kernel
theorem dX3_reaches_10 : decode cX3_reaches 10 = .ok (.iload_n 3, 1) := by decide +kernel
theorem dX3_reaches_11 : decode cX3_reaches 11 = .ok (.ishl, 1) := by decide +kernel
theorem dX3_reaches_12 : decode cX3_reaches 12 = .ok (.iand, 1) := by decide +kernel
theorem dX3_reaches_13 : decode cX3_reaches 13 = .ok (.ifCond .eq 16, 3) := by decide +kernel
theorem dX3_reaches_16 : decode cX3_reaches 16 = .ok (.aload_n 0, 1) := by decide +kernel
theorem dX3_reaches_17 : decode cX3_reaches 17 = .ok (.getfield 24, 3) := by decide +kernel
theorem dX3_reaches_20 : decode cX3_reaches 20 = .ok (.iload_n 3, 1) := by decide +kernel
theorem dX3_reaches_21 : decode cX3_reaches 21 = .ok (.iaload, 1) := by decide +kernel
theorem dX3_reaches_22 : decode cX3_reaches 22 = .ok (.iload_n 2, 1) := by decide +kernel
theorem dX3_reaches_23 : decode cX3_reaches 23 = .ok (.iand, 1) := by decide +kernel
theorem dX3_reaches_24 : decode cX3_reaches 24 = .ok (.ifCond .eq 5, 3) := by decide +kernel
theorem dX3_reaches_27 : decode cX3_reaches 27 = .ok (.iconst 1, 1) := by decide +kernel
theorem dX3_reaches_28 : decode cX3_reaches 28 = .ok (.ireturn, 1) := by decide +kernel
theorem dX3_reaches_29 : decode cX3_reaches 29 = .ok (.iinc 3 1, 3) := by decide +kernel
theorem dX3_reaches_32 : decode cX3_reaches 32 = .ok (.goto (-30), 3) := by decide +kernel
theorem dX3_reaches_35 : decode cX3_reaches 35 = .ok (.iconst 0, 1) := by decide +kernel
theorem dX3_reaches_36 : decode cX3_reaches 36 = .ok (.ireturn, 1) := by decide +kernel
theorem dX3_cutsToBeside_0 : decode cX3_cutsToBeside 0 = .ok (.iconst 0, 1) := by decide +kernel
theorem dX3_cutsToBeside_1 : decode cX3_cutsToBeside 1 = .ok (.istore_n 1, 1) := by decide +kernel
theorem dX3_cutsToBeside_2 : decode cX3_cutsToBeside 2 = .ok (.iload_n 1, 1) := by decide +kernel
theorem dX3_cutsToBeside_3 : decode cX3_cutsToBeside 3 = .ok (.bipush 12, 2) := by decide +kernel
theorem dX3_cutsToBeside_5 : decode cX3_cutsToBeside 5 = .ok (.if_icmp .ge 35, 3) := by decide +kernel
theorem dX3_cutsToBeside_8 : decode cX3_cutsToBeside 8 = .ok (.aload_n 0, 1) := by decide +kernel
theorem dX3_cutsToBeside_9 : decode cX3_cutsToBeside 9 = .ok (.getfield 21, 3) := by decide +kernel
theorem dX3_cutsToBeside_12 : decode cX3_cutsToBeside 12 = .ok (.iload_n 1, 1) := by decide +kernel
theorem dX3_cutsToBeside_13 : decode cX3_cutsToBeside 13 = .ok (.aload_n 0, 1) := by decide +kernel
theorem dX3_cutsToBeside_14 : decode cX3_cutsToBeside 14 = .ok (.getfield 42, 3) := by decide +kernel
theorem dX3_cutsToBeside_17 : decode cX3_cutsToBeside 17 = .ok (.aload_n 0, 1) := by decide +kernel
theorem dX3_cutsToBeside_18 : decode cX3_cutsToBeside 18 = .ok (.getfield 15, 3) := by decide +kernel
theorem dX3_cutsToBeside_21 : decode cX3_cutsToBeside 21 = .ok (.iload_n 1, 1) := by decide +kernel
theorem dX3_cutsToBeside_22 : decode cX3_cutsToBeside 22 = .ok (.iaload, 1) := by decide +kernel
theorem dX3_cutsToBeside_23 : decode cX3_cutsToBeside 23 = .ok (.aload_n 0, 1) := by decide +kernel
theorem dX3_cutsToBeside_24 : decode cX3_cutsToBeside 24 = .ok (.getfield 18, 3) := by decide +kernel
theorem dX3_cutsToBeside_27 : decode cX3_cutsToBeside 27 = .ok (.iload_n 1, 1) := by decide +kernel
theorem dX3_cutsToBeside_28 : decode cX3_cutsToBeside 28 = .ok (.iaload, 1) := by decide +kernel
theorem dX3_cutsToBeside_29 : decode cX3_cutsToBeside 29 = .ok (.iand, 1) := by decide +kernel
theorem dX3_cutsToBeside_30 : decode cX3_cutsToBeside 30 = .ok (.iconst (-1), 1) := by decide +kernel
theorem dX3_cutsToBeside_31 : decode cX3_cutsToBeside 31 = .ok (.ixor, 1) := by decide +kernel
theorem dX3_cutsToBeside_32 : decode cX3_cutsToBeside 32 = .ok (.iand, 1) := by decide +kernel
theorem dX3_cutsToBeside_33 : decode cX3_cutsToBeside 33 = .ok (.iastore, 1) := by decide +kernel
theorem dX3_cutsToBeside_34 : decode cX3_cutsToBeside 34 = .ok (.iinc 1 1, 3) := by decide +kernel
theorem dX3_cutsToBeside_37 : decode cX3_cutsToBeside 37 = .ok (.goto (-35), 3) := by decide +kernel
theorem dX3_cutsToBeside_40 : decode cX3_cutsToBeside 40 = .ok (.aload_n 0, 1) := by decide +kernel
theorem dX3_cutsToBeside_41 : decode cX3_cutsToBeside 41 = .ok (.aload_n 0, 1) := by decide +kernel
theorem dX3_cutsToBeside_42 : decode cX3_cutsToBeside 42 = .ok (.getfield 42, 3) := by decide +kernel
theorem dX3_cutsToBeside_45 : decode cX3_cutsToBeside 45 = .ok (.invokevirtual 87, 3) := by decide +kernel
theorem dX3_cutsToBeside_48 : decode cX3_cutsToBeside 48 = .ok (.iconst 0, 1) := by decide +kernel
theorem dX3_cutsToBeside_49 : decode cX3_cutsToBeside 49 = .ok (.istore_n 1, 1) := by decide +kernel
theorem dX3_cutsToBeside_50 : decode cX3_cutsToBeside 50 = .ok (.iload_n 1, 1) := by decide +kernel
theorem dX3_cutsToBeside_51 : decode cX3_cutsToBeside 51 = .ok (.aload_n 0, 1) := by decide +kernel
theorem dX3_cutsToBeside_52 : decode cX3_cutsToBeside 52 = .ok (.getfield 80, 3) := by decide +kernel
theorem dX3_cutsToBeside_55 : decode cX3_cutsToBeside 55 = .ok (.if_icmp .ge 39, 3) := by decide +kernel
theorem dX3_cutsToBeside_58 : decode cX3_cutsToBeside 58 = .ok (.aload_n 0, 1) := by decide +kernel
theorem dX3_cutsToBeside_59 : decode cX3_cutsToBeside 59 = .ok (.getfield 27, 3) := by decide +kernel
theorem dX3_cutsToBeside_62 : decode cX3_cutsToBeside 62 = .ok (.iload_n 1, 1) := by decide +kernel
theorem dX3_cutsToBeside_63 : decode cX3_cutsToBeside 63 = .ok (.iaload, 1) := by decide +kernel
theorem dX3_cutsToBeside_64 : decode cX3_cutsToBeside 64 = .ok (.aload_n 0, 1) := by decide +kernel
theorem dX3_cutsToBeside_65 : decode cX3_cutsToBeside 65 = .ok (.getfield 45, 3) := by decide +kernel
theorem dX3_cutsToBeside_68 : decode cX3_cutsToBeside 68 = .ok (.iand, 1) := by decide +kernel
theorem dX3_cutsToBeside_69 : decode cX3_cutsToBeside 69 = .ok (.ifCond .eq 17, 3) := by decide +kernel
theorem dX3_cutsToBeside_72 : decode cX3_cutsToBeside 72 = .ok (.aload_n 0, 1) := by decide +kernel
theorem dX3_cutsToBeside_73 : decode cX3_cutsToBeside 73 = .ok (.getfield 27, 3) := by decide +kernel
theorem dX3_cutsToBeside_76 : decode cX3_cutsToBeside 76 = .ok (.iload_n 1, 1) := by decide +kernel
theorem dX3_cutsToBeside_77 : decode cX3_cutsToBeside 77 = .ok (.iaload, 1) := by decide +kernel
theorem dX3_cutsToBeside_78 : decode cX3_cutsToBeside 78 = .ok (.aload_n 0, 1) := by decide +kernel
theorem dX3_cutsToBeside_79 : decode cX3_cutsToBeside 79 = .ok (.getfield 48, 3) := by decide +kernel
theorem dX3_cutsToBeside_82 : decode cX3_cutsToBeside 82 = .ok (.iand, 1) := by decide +kernel
theorem dX3_cutsToBeside_83 : decode cX3_cutsToBeside 83 = .ok (.ifCond .ne 5, 3) := by decide +kernel
theorem dX3_cutsToBeside_86 : decode cX3_cutsToBeside 86 = .ok (.iconst 0, 1) := by decide +kernel
theorem dX3_cutsToBeside_87 : decode cX3_cutsToBeside 87 = .ok (.ireturn, 1) := by decide +kernel
theorem dX3_cutsToBeside_88 : decode cX3_cutsToBeside 88 = .ok (.iinc 1 1, 3) := by decide +kernel
theorem dX3_cutsToBeside_91 : decode cX3_cutsToBeside 91 = .ok (.goto (-41), 3) := by decide +kernel
theorem dX3_cutsToBeside_94 : decode cX3_cutsToBeside 94 = .ok (.aload_n 0, 1) := by decide +kernel
theorem dX3_cutsToBeside_95 : decode cX3_cutsToBeside 95 = .ok (.getfield 80, 3) := by decide +kernel
theorem dX3_cutsToBeside_98 : decode cX3_cutsToBeside 98 = .ok (.iconst 1, 1) := by decide +kernel
theorem dX3_cutsToBeside_99 : decode cX3_cutsToBeside 99 = .ok (.if_icmp .le 7, 3) := by decide +kernel
theorem dX3_cutsToBeside_102 : decode cX3_cutsToBeside 102 = .ok (.iconst 1, 1) := by decide +kernel
theorem dX3_cutsToBeside_103 : decode cX3_cutsToBeside 103 = .ok (.goto 4, 3) := by decide +kernel
theorem dX3_cutsToBeside_106 : decode cX3_cutsToBeside 106 = .ok (.iconst 0, 1) := by decide +kernel
theorem dX3_cutsToBeside_107 : decode cX3_cutsToBeside 107 = .ok (.ireturn, 1) := by decide +kernel
theorem dX3_cutsToLoop_0 : decode cX3_cutsToLoop 0 = .ok (.aload_n 0, 1) := by decide +kernel
theorem dX3_cutsToLoop_1 : decode cX3_cutsToLoop 1 = .ok (.getfield 45, 3) := by decide +kernel
theorem dX3_cutsToLoop_4 : decode cX3_cutsToLoop 4 = .ok (.aload_n 0, 1) := by decide +kernel
theorem dX3_cutsToLoop_5 : decode cX3_cutsToLoop 5 = .ok (.getfield 48, 3) := by decide +kernel
theorem dX3_cutsToLoop_8 : decode cX3_cutsToLoop 8 = .ok (.ior, 1) := by decide +kernel
theorem dX3_cutsToLoop_9 : decode cX3_cutsToLoop 9 = .ok (.istore_n 1, 1) := by decide +kernel
theorem dX3_cutsToLoop_10 : decode cX3_cutsToLoop 10 = .ok (.aload_n 0, 1) := by decide +kernel
theorem dX3_cutsToLoop_11 : decode cX3_cutsToLoop 11 = .ok (.getfield 42, 3) := by decide +kernel
theorem dX3_cutsToLoop_14 : decode cX3_cutsToLoop 14 = .ok (.iload_n 1, 1) := by decide +kernel
theorem dX3_cutsToLoop_15 : decode cX3_cutsToLoop 15 = .ok (.iconst (-1), 1) := by decide +kernel
theorem dX3_cutsToLoop_16 : decode cX3_cutsToLoop 16 = .ok (.ixor, 1) := by decide +kernel
theorem dX3_cutsToLoop_17 : decode cX3_cutsToLoop 17 = .ok (.iand, 1) := by decide +kernel
theorem dX3_cutsToLoop_18 : decode cX3_cutsToLoop 18 = .ok (.istore_n 2, 1) := by decide +kernel
theorem dX3_cutsToLoop_19 : decode cX3_cutsToLoop 19 = .ok (.iconst 0, 1) := by decide +kernel
theorem dX3_cutsToLoop_20 : decode cX3_cutsToLoop 20 = .ok (.istore_n 3, 1) := by decide +kernel
theorem dX3_cutsToLoop_21 : decode cX3_cutsToLoop 21 = .ok (.iload_n 3, 1) := by decide +kernel
theorem dX3_cutsToLoop_22 : decode cX3_cutsToLoop 22 = .ok (.bipush 12, 2) := by decide +kernel
theorem dX3_cutsToLoop_24 : decode cX3_cutsToLoop 24 = .ok (.if_icmp .ge 30, 3) := by decide +kernel
theorem dX3_cutsToLoop_27 : decode cX3_cutsToLoop 27 = .ok (.aload_n 0, 1) := by decide +kernel
theorem dX3_cutsToLoop_28 : decode cX3_cutsToLoop 28 = .ok (.getfield 21, 3) := by decide +kernel
theorem dX3_cutsToLoop_31 : decode cX3_cutsToLoop 31 = .ok (.iload_n 3, 1) := by decide +kernel
theorem dX3_cutsToLoop_32 : decode cX3_cutsToLoop 32 = .ok (.aload_n 0, 1) := by decide +kernel
theorem dX3_cutsToLoop_33 : decode cX3_cutsToLoop 33 = .ok (.getfield 15, 3) := by decide +kernel
theorem dX3_cutsToLoop_36 : decode cX3_cutsToLoop 36 = .ok (.iload_n 3, 1) := by decide +kernel
theorem dX3_cutsToLoop_37 : decode cX3_cutsToLoop 37 = .ok (.iaload, 1) := by decide +kernel
theorem dX3_cutsToLoop_38 : decode cX3_cutsToLoop 38 = .ok (.aload_n 0, 1) := by decide +kernel
theorem dX3_cutsToLoop_39 : decode cX3_cutsToLoop 39 = .ok (.getfield 18, 3) := by decide +kernel
theorem dX3_cutsToLoop_42 : decode cX3_cutsToLoop 42 = .ok (.iload_n 3, 1) := by decide +kernel
theorem dX3_cutsToLoop_43 : decode cX3_cutsToLoop 43 = .ok (.iaload, 1) := by decide +kernel
theorem dX3_cutsToLoop_44 : decode cX3_cutsToLoop 44 = .ok (.ior, 1) := by decide +kernel
theorem dX3_cutsToLoop_45 : decode cX3_cutsToLoop 45 = .ok (.iload_n 2, 1) := by decide +kernel
theorem dX3_cutsToLoop_46 : decode cX3_cutsToLoop 46 = .ok (.iand, 1) := by decide +kernel
theorem dX3_cutsToLoop_47 : decode cX3_cutsToLoop 47 = .ok (.iastore, 1) := by decide +kernel
theorem dX3_cutsToLoop_48 : decode cX3_cutsToLoop 48 = .ok (.iinc 3 1, 3) := by decide +kernel
theorem dX3_cutsToLoop_51 : decode cX3_cutsToLoop 51 = .ok (.goto (-30), 3) := by decide +kernel
theorem dX3_cutsToLoop_54 : decode cX3_cutsToLoop 54 = .ok (.aload_n 0, 1) := by decide +kernel
theorem dX3_cutsToLoop_55 : decode cX3_cutsToLoop 55 = .ok (.iload_n 2, 1) := by decide +kernel
theorem dX3_cutsToLoop_56 : decode cX3_cutsToLoop 56 = .ok (.invokevirtual 87, 3) := by decide +kernel
theorem dX3_cutsToLoop_59 : decode cX3_cutsToLoop 59 = .ok (.iload_n 1, 1) := by decide +kernel
theorem dX3_cutsToLoop_60 : decode cX3_cutsToLoop 60 = .ok (.istore_n 3, 1) := by decide +kernel
theorem dX3_cutsToLoop_61 : decode cX3_cutsToLoop 61 = .ok (.iconst 0, 1) := by decide +kernel
theorem dX3_cutsToLoop_62 : decode cX3_cutsToLoop 62 = .ok (.istore 4, 2) := by decide +kernel
theorem dX3_cutsToLoop_64 : decode cX3_cutsToLoop 64 = .ok (.iload 4, 2) := by decide +kernel
theorem dX3_cutsToLoop_66 : decode cX3_cutsToLoop 66 = .ok (.aload_n 0, 1) := by decide +kernel
theorem dX3_cutsToLoop_67 : decode cX3_cutsToLoop 67 = .ok (.getfield 80, 3) := by decide +kernel
theorem dX3_cutsToLoop_70 : decode cX3_cutsToLoop 70 = .ok (.if_icmp .ge 34, 3) := by decide +kernel
theorem dX3_cutsToLoop_73 : decode cX3_cutsToLoop 73 = .ok (.aload_n 0, 1) := by decide +kernel
theorem dX3_cutsToLoop_74 : decode cX3_cutsToLoop 74 = .ok (.iload_n 1, 1) := by decide +kernel
theorem dX3_cutsToLoop_75 : decode cX3_cutsToLoop 75 = .ok (.aload_n 0, 1) := by decide +kernel
theorem dX3_cutsToLoop_76 : decode cX3_cutsToLoop 76 = .ok (.getfield 27, 3) := by decide +kernel
theorem dX3_cutsToLoop_79 : decode cX3_cutsToLoop 79 = .ok (.iload 4, 2) := by decide +kernel
theorem dX3_cutsToLoop_81 : decode cX3_cutsToLoop 81 = .ok (.iaload, 1) := by decide +kernel
theorem dX3_cutsToLoop_82 : decode cX3_cutsToLoop 82 = .ok (.invokevirtual 97, 3) := by decide +kernel
theorem dX3_cutsToLoop_85 : decode cX3_cutsToLoop 85 = .ok (.ifCond .eq 13, 3) := by decide +kernel
theorem dX3_cutsToLoop_88 : decode cX3_cutsToLoop 88 = .ok (.iload_n 3, 1) := by decide +kernel
theorem dX3_cutsToLoop_89 : decode cX3_cutsToLoop 89 = .ok (.aload_n 0, 1) := by decide +kernel
theorem dX3_cutsToLoop_90 : decode cX3_cutsToLoop 90 = .ok (.getfield 27, 3) := by decide +kernel
theorem dX3_cutsToLoop_93 : decode cX3_cutsToLoop 93 = .ok (.iload 4, 2) := by decide +kernel
theorem dX3_cutsToLoop_95 : decode cX3_cutsToLoop 95 = .ok (.iaload, 1) := by decide +kernel
theorem dX3_cutsToLoop_96 : decode cX3_cutsToLoop 96 = .ok (.ior, 1) := by decide +kernel
theorem dX3_cutsToLoop_97 : decode cX3_cutsToLoop 97 = .ok (.istore_n 3, 1) := by decide +kernel
theorem dX3_cutsToLoop_98 : decode cX3_cutsToLoop 98 = .ok (.iinc 4 1, 3) := by decide +kernel
theorem dX3_cutsToLoop_101 : decode cX3_cutsToLoop 101 = .ok (.goto (-37), 3) := by decide +kernel
theorem dX3_cutsToLoop_104 : decode cX3_cutsToLoop 104 = .ok (.aload_n 0, 1) := by decide +kernel
theorem dX3_cutsToLoop_105 : decode cX3_cutsToLoop 105 = .ok (.aload_n 0, 1) := by decide +kernel
theorem dX3_cutsToLoop_106 : decode cX3_cutsToLoop 106 = .ok (.getfield 42, 3) := by decide +kernel
theorem dX3_cutsToLoop_109 : decode cX3_cutsToLoop 109 = .ok (.iload_n 3, 1) := by decide +kernel
theorem dX3_cutsToLoop_110 : decode cX3_cutsToLoop 110 = .ok (.iconst (-1), 1) := by decide +kernel
theorem dX3_cutsToLoop_111 : decode cX3_cutsToLoop 111 = .ok (.ixor, 1) := by decide +kernel
theorem dX3_cutsToLoop_112 : decode cX3_cutsToLoop 112 = .ok (.iand, 1) := by decide +kernel
theorem dX3_cutsToLoop_113 : decode cX3_cutsToLoop 113 = .ok (.invokevirtual 87, 3) := by decide +kernel
theorem dX3_cutsToLoop_116 : decode cX3_cutsToLoop 116 = .ok (.aload_n 0, 1) := by decide +kernel
theorem dX3_cutsToLoop_117 : decode cX3_cutsToLoop 117 = .ok (.iload_n 3, 1) := by decide +kernel
theorem dX3_cutsToLoop_118 : decode cX3_cutsToLoop 118 = .ok (.invokevirtual 100, 3) := by decide +kernel
theorem dX3_cutsToLoop_121 : decode cX3_cutsToLoop 121 = .ok (.aload_n 0, 1) := by decide +kernel
theorem dX3_cutsToLoop_122 : decode cX3_cutsToLoop 122 = .ok (.getfield 80, 3) := by decide +kernel
theorem dX3_cutsToLoop_125 : decode cX3_cutsToLoop 125 = .ok (.iconst 1, 1) := by decide +kernel
theorem dX3_cutsToLoop_126 : decode cX3_cutsToLoop 126 = .ok (.if_icmp .le 7, 3) := by decide +kernel
theorem dX3_cutsToLoop_129 : decode cX3_cutsToLoop 129 = .ok (.iconst 1, 1) := by decide +kernel
theorem dX3_cutsToLoop_130 : decode cX3_cutsToLoop 130 = .ok (.goto 4, 3) := by decide +kernel
theorem dX3_cutsToLoop_133 : decode cX3_cutsToLoop 133 = .ok (.iconst 0, 1) := by decide +kernel
theorem dX3_cutsToLoop_134 : decode cX3_cutsToLoop 134 = .ok (.ireturn, 1) := by decide +kernel
theorem dX3_putAhead_0 : decode cX3_putAhead 0 = .ok (.aload_n 0, 1) := by decide +kernel
theorem dX3_putAhead_1 : decode cX3_putAhead 1 = .ok (.getfield 80, 3) := by decide +kernel
theorem dX3_putAhead_4 : decode cX3_putAhead 4 = .ok (.aload_n 0, 1) := by decide +kernel
theorem dX3_putAhead_5 : decode cX3_putAhead 5 = .ok (.getfield 27, 3) := by decide +kernel
theorem dX3_putAhead_8 : decode cX3_putAhead 8 = .ok (.arraylength, 1) := by decide +kernel
theorem dX3_putAhead_9 : decode cX3_putAhead 9 = .ok (.if_icmp .lt 4, 3) := by decide +kernel
theorem dX3_putAhead_12 : decode cX3_putAhead 12 = .ok (.return_, 1) := by decide +kernel
theorem dX3_putAhead_13 : decode cX3_putAhead 13 = .ok (.aload_n 0, 1) := by decide +kernel
theorem dX3_putAhead_14 : decode cX3_putAhead 14 = .ok (.getfield 80, 3) := by decide +kernel
theorem dX3_putAhead_17 : decode cX3_putAhead 17 = .ok (.istore_n 2, 1) := by decide +kernel
theorem dX3_putAhead_18 : decode cX3_putAhead 18 = .ok (.iload_n 2, 1) := by decide +kernel
theorem dX3_putAhead_19 : decode cX3_putAhead 19 = .ok (.ifCond .le 23, 3) := by decide +kernel
theorem dX3_putAhead_22 : decode cX3_putAhead 22 = .ok (.aload_n 0, 1) := by decide +kernel
theorem dX3_putAhead_23 : decode cX3_putAhead 23 = .ok (.getfield 27, 3) := by decide +kernel
theorem dX3_putAhead_26 : decode cX3_putAhead 26 = .ok (.iload_n 2, 1) := by decide +kernel
theorem dX3_putAhead_27 : decode cX3_putAhead 27 = .ok (.aload_n 0, 1) := by decide +kernel
theorem dX3_putAhead_28 : decode cX3_putAhead 28 = .ok (.getfield 27, 3) := by decide +kernel
theorem dX3_putAhead_31 : decode cX3_putAhead 31 = .ok (.iload_n 2, 1) := by decide +kernel
theorem dX3_putAhead_32 : decode cX3_putAhead 32 = .ok (.iconst 1, 1) := by decide +kernel
theorem dX3_putAhead_33 : decode cX3_putAhead 33 = .ok (.isub, 1) := by decide +kernel
theorem dX3_putAhead_34 : decode cX3_putAhead 34 = .ok (.iaload, 1) := by decide +kernel
theorem dX3_putAhead_35 : decode cX3_putAhead 35 = .ok (.iastore, 1) := by decide +kernel
theorem dX3_putAhead_36 : decode cX3_putAhead 36 = .ok (.iinc 2 (-1), 3) := by decide +kernel
theorem dX3_putAhead_39 : decode cX3_putAhead 39 = .ok (.goto (-21), 3) := by decide +kernel
theorem dX3_putAhead_42 : decode cX3_putAhead 42 = .ok (.aload_n 0, 1) := by decide +kernel
theorem dX3_putAhead_43 : decode cX3_putAhead 43 = .ok (.getfield 27, 3) := by decide +kernel
theorem dX3_putAhead_46 : decode cX3_putAhead 46 = .ok (.iconst 0, 1) := by decide +kernel
theorem dX3_putAhead_47 : decode cX3_putAhead 47 = .ok (.iload_n 1, 1) := by decide +kernel
theorem dX3_putAhead_48 : decode cX3_putAhead 48 = .ok (.iastore, 1) := by decide +kernel
theorem dX3_putAhead_49 : decode cX3_putAhead 49 = .ok (.aload_n 0, 1) := by decide +kernel
theorem dX3_putAhead_50 : decode cX3_putAhead 50 = .ok (.dup, 1) := by decide +kernel
theorem dX3_putAhead_51 : decode cX3_putAhead 51 = .ok (.getfield 80, 3) := by decide +kernel
theorem dX3_putAhead_54 : decode cX3_putAhead 54 = .ok (.iconst 1, 1) := by decide +kernel
theorem dX3_putAhead_55 : decode cX3_putAhead 55 = .ok (.iadd, 1) := by decide +kernel
theorem dX3_putAhead_56 : decode cX3_putAhead 56 = .ok (.putfield 80, 3) := by decide +kernel
theorem dX3_putAhead_59 : decode cX3_putAhead 59 = .ok (.return_, 1) := by decide +kernel
theorem dX3_goesTo_0 : decode cX3_goesTo 0 = .ok (.iconst 0, 1) := by decide +kernel
theorem dX3_goesTo_1 : decode cX3_goesTo 1 = .ok (.istore_n 3, 1) := by decide +kernel
theorem dX3_goesTo_2 : decode cX3_goesTo 2 = .ok (.iload_n 3, 1) := by decide +kernel
theorem dX3_goesTo_3 : decode cX3_goesTo 3 = .ok (.bipush 12, 2) := by decide +kernel
theorem dX3_goesTo_5 : decode cX3_goesTo 5 = .ok (.if_icmp .ge 94, 3) := by decide +kernel
theorem dX3_goesTo_8 : decode cX3_goesTo 8 = .ok (.iload_n 2, 1) := by decide +kernel
theorem dX3_goesTo_9 : decode cX3_goesTo 9 = .ok (.iconst 1, 1) := by decide +kernel
theorem dX3_goesTo_10 : decode cX3_goesTo 10 = .ok (.iload_n 3, 1) := by decide +kernel
theorem dX3_goesTo_11 : decode cX3_goesTo 11 = .ok (.ishl, 1) := by decide +kernel
theorem dX3_goesTo_12 : decode cX3_goesTo 12 = .ok (.iand, 1) := by decide +kernel
theorem dX3_goesTo_13 : decode cX3_goesTo 13 = .ok (.ifCond .ne 6, 3) := by decide +kernel
theorem dX3_goesTo_16 : decode cX3_goesTo 16 = .ok (.goto 77, 3) := by decide +kernel
theorem dX3_goesTo_19 : decode cX3_goesTo 19 = .ok (.aload_n 0, 1) := by decide +kernel
theorem dX3_goesTo_20 : decode cX3_goesTo 20 = .ok (.getfield 18, 3) := by decide +kernel
theorem dX3_goesTo_23 : decode cX3_goesTo 23 = .ok (.iload_n 3, 1) := by decide +kernel
theorem dX3_goesTo_24 : decode cX3_goesTo 24 = .ok (.iaload, 1) := by decide +kernel
theorem dX3_goesTo_25 : decode cX3_goesTo 25 = .ok (.iload_n 1, 1) := by decide +kernel
theorem dX3_goesTo_26 : decode cX3_goesTo 26 = .ok (.iand, 1) := by decide +kernel
theorem dX3_goesTo_27 : decode cX3_goesTo 27 = .ok (.aload_n 0, 1) := by decide +kernel
theorem dX3_goesTo_28 : decode cX3_goesTo 28 = .ok (.getfield 48, 3) := by decide +kernel
theorem dX3_goesTo_31 : decode cX3_goesTo 31 = .ok (.iconst (-1), 1) := by decide +kernel
theorem dX3_goesTo_32 : decode cX3_goesTo 32 = .ok (.ixor, 1) := by decide +kernel
theorem dX3_goesTo_33 : decode cX3_goesTo 33 = .ok (.iand, 1) := by decide +kernel
theorem dX3_goesTo_34 : decode cX3_goesTo 34 = .ok (.ifCond .eq 5, 3) := by decide +kernel
theorem dX3_goesTo_37 : decode cX3_goesTo 37 = .ok (.iconst 1, 1) := by decide +kernel
theorem dX3_goesTo_38 : decode cX3_goesTo 38 = .ok (.ireturn, 1) := by decide +kernel
theorem dX3_goesTo_39 : decode cX3_goesTo 39 = .ok (.aload_n 0, 1) := by decide +kernel
theorem dX3_goesTo_40 : decode cX3_goesTo 40 = .ok (.getfield 15, 3) := by decide +kernel
theorem dX3_goesTo_43 : decode cX3_goesTo 43 = .ok (.iload_n 3, 1) := by decide +kernel
theorem dX3_goesTo_44 : decode cX3_goesTo 44 = .ok (.iaload, 1) := by decide +kernel
theorem dX3_goesTo_45 : decode cX3_goesTo 45 = .ok (.iload_n 1, 1) := by decide +kernel
theorem dX3_goesTo_46 : decode cX3_goesTo 46 = .ok (.iand, 1) := by decide +kernel
theorem dX3_goesTo_47 : decode cX3_goesTo 47 = .ok (.aload_n 0, 1) := by decide +kernel
theorem dX3_goesTo_48 : decode cX3_goesTo 48 = .ok (.getfield 45, 3) := by decide +kernel
theorem dX3_goesTo_51 : decode cX3_goesTo 51 = .ok (.iconst (-1), 1) := by decide +kernel
theorem dX3_goesTo_52 : decode cX3_goesTo 52 = .ok (.ixor, 1) := by decide +kernel
theorem dX3_goesTo_53 : decode cX3_goesTo 53 = .ok (.iand, 1) := by decide +kernel
theorem dX3_goesTo_54 : decode cX3_goesTo 54 = .ok (.ifCond .eq 5, 3) := by decide +kernel
theorem dX3_goesTo_57 : decode cX3_goesTo 57 = .ok (.iconst 1, 1) := by decide +kernel
theorem dX3_goesTo_58 : decode cX3_goesTo 58 = .ok (.ireturn, 1) := by decide +kernel
theorem dX3_goesTo_59 : decode cX3_goesTo 59 = .ok (.aload_n 0, 1) := by decide +kernel
theorem dX3_goesTo_60 : decode cX3_goesTo 60 = .ok (.getfield 18, 3) := by decide +kernel
theorem dX3_goesTo_63 : decode cX3_goesTo 63 = .ok (.iload_n 3, 1) := by decide +kernel
theorem dX3_goesTo_64 : decode cX3_goesTo 64 = .ok (.iaload, 1) := by decide +kernel
theorem dX3_goesTo_65 : decode cX3_goesTo 65 = .ok (.aload_n 0, 1) := by decide +kernel
theorem dX3_goesTo_66 : decode cX3_goesTo 66 = .ok (.getfield 48, 3) := by decide +kernel
theorem dX3_goesTo_69 : decode cX3_goesTo 69 = .ok (.invokestatic 103, 3) := by decide +kernel
theorem dX3_goesTo_72 : decode cX3_goesTo 72 = .ok (.ifCond .ne 19, 3) := by decide +kernel
theorem dX3_goesTo_75 : decode cX3_goesTo 75 = .ok (.aload_n 0, 1) := by decide +kernel
theorem dX3_goesTo_76 : decode cX3_goesTo 76 = .ok (.getfield 15, 3) := by decide +kernel
theorem dX3_goesTo_79 : decode cX3_goesTo 79 = .ok (.iload_n 3, 1) := by decide +kernel
theorem dX3_goesTo_80 : decode cX3_goesTo 80 = .ok (.iaload, 1) := by decide +kernel
theorem dX3_goesTo_81 : decode cX3_goesTo 81 = .ok (.aload_n 0, 1) := by decide +kernel
theorem dX3_goesTo_82 : decode cX3_goesTo 82 = .ok (.getfield 45, 3) := by decide +kernel
theorem dX3_goesTo_85 : decode cX3_goesTo 85 = .ok (.invokestatic 103, 3) := by decide +kernel
theorem dX3_goesTo_88 : decode cX3_goesTo 88 = .ok (.ifCond .eq 5, 3) := by decide +kernel
theorem dX3_goesTo_91 : decode cX3_goesTo 91 = .ok (.iconst 1, 1) := by decide +kernel
theorem dX3_goesTo_92 : decode cX3_goesTo 92 = .ok (.ireturn, 1) := by decide +kernel
theorem dX3_goesTo_93 : decode cX3_goesTo 93 = .ok (.iinc 3 1, 3) := by decide +kernel
theorem dX3_goesTo_96 : decode cX3_goesTo 96 = .ok (.goto (-94), 3) := by decide +kernel
theorem dX3_goesTo_99 : decode cX3_goesTo 99 = .ok (.iconst 0, 1) := by decide +kernel
theorem dX3_goesTo_100 : decode cX3_goesTo 100 = .ok (.ireturn, 1) := by decide +kernel
theorem dX3_someNotAll_0 : decode cX3_someNotAll 0 = .ok (.iload_n 0, 1) := by decide +kernel
theorem dX3_someNotAll_1 : decode cX3_someNotAll 1 = .ok (.iload_n 1, 1) := by decide +kernel
theorem dX3_someNotAll_2 : decode cX3_someNotAll 2 = .ok (.iand, 1) := by decide +kernel
theorem dX3_someNotAll_3 : decode cX3_someNotAll 3 = .ok (.ifCond .eq 14, 3) := by decide +kernel
theorem dX3_someNotAll_6 : decode cX3_someNotAll 6 = .ok (.iload_n 0, 1) := by decide +kernel
theorem dX3_someNotAll_7 : decode cX3_someNotAll 7 = .ok (.iload_n 1, 1) := by decide +kernel
theorem dX3_someNotAll_8 : decode cX3_someNotAll 8 = .ok (.iand, 1) := by decide +kernel
theorem dX3_someNotAll_9 : decode cX3_someNotAll 9 = .ok (.iload_n 1, 1) := by decide +kernel
theorem dX3_someNotAll_10 : decode cX3_someNotAll 10 = .ok (.if_icmp .eq 7, 3) := by decide +kernel
theorem dX3_someNotAll_13 : decode cX3_someNotAll 13 = .ok (.iconst 1, 1) := by decide +kernel
theorem dX3_someNotAll_14 : decode cX3_someNotAll 14 = .ok (.goto 4, 3) := by decide +kernel
theorem dX3_someNotAll_17 : decode cX3_someNotAll 17 = .ok (.iconst 0, 1) := by decide +kernel
theorem dX3_someNotAll_18 : decode cX3_someNotAll 18 = .ok (.ireturn, 1) := by decide +kernel
theorem dX4_init_0 : decode cX4_init 0 = .ok (.aload_n 0, 1) := by decide +kernel
theorem dX4_init_1 : decode cX4_init 1 = .ok (.invokespecial 3, 3) := by decide +kernel
theorem dX4_init_4 : decode cX4_init 4 = .ok (.aload_n 0, 1) := by decide +kernel
theorem dX4_init_5 : decode cX4_init 5 = .ok (.bipush (-3), 2) := by decide +kernel
theorem dX4_init_7 : decode cX4_init 7 = .ok (.putfield 9, 3) := by decide +kernel
theorem dX4_init_10 : decode cX4_init 10 = .ok (.return_, 1) := by decide +kernel
theorem dX4_take_0 : decode cX4_take 0 = .ok (.iload_n 1, 1) := by decide +kernel
theorem dX4_take_1 : decode cX4_take 1 = .ok (.iconst (-1), 1) := by decide +kernel
theorem dX4_take_2 : decode cX4_take 2 = .ok (.if_icmp .eq 8, 3) := by decide +kernel
theorem dX4_take_5 : decode cX4_take 5 = .ok (.iload_n 2, 1) := by decide +kernel
theorem dX4_take_6 : decode cX4_take 6 = .ok (.iconst (-1), 1) := by decide +kernel
theorem dX4_take_7 : decode cX4_take 7 = .ok (.if_icmp .ne 14, 3) := by decide +kernel
theorem dX4_take_10 : decode cX4_take 10 = .ok (.aload_n 0, 1) := by decide +kernel
theorem dX4_take_11 : decode cX4_take 11 = .ok (.dup, 1) := by decide +kernel
theorem dX4_take_12 : decode cX4_take 12 = .ok (.getfield 15, 3) := by decide +kernel
theorem dX4_take_15 : decode cX4_take 15 = .ok (.iconst 1, 1) := by decide +kernel
theorem dX4_take_16 : decode cX4_take 16 = .ok (.iadd, 1) := by decide +kernel
theorem dX4_take_17 : decode cX4_take 17 = .ok (.putfield 15, 3) := by decide +kernel
theorem dX4_take_20 : decode cX4_take 20 = .ok (.return_, 1) := by decide +kernel
theorem dX4_take_21 : decode cX4_take 21 = .ok (.iload_n 2, 1) := by decide +kernel
theorem dX4_take_22 : decode cX4_take 22 = .ok (.iload_n 1, 1) := by decide +kernel
theorem dX4_take_23 : decode cX4_take 23 = .ok (.isub, 1) := by decide +kernel
theorem dX4_take_24 : decode cX4_take 24 = .ok (.istore_n 3, 1) := by decide +kernel
theorem dX4_take_25 : decode cX4_take 25 = .ok (.aload_n 0, 1) := by decide +kernel
theorem dX4_take_26 : decode cX4_take 26 = .ok (.getfield 18, 3) := by decide +kernel
theorem dX4_take_29 : decode cX4_take 29 = .ok (.ifCond .eq 11, 3) := by decide +kernel
theorem dX4_take_32 : decode cX4_take 32 = .ok (.iload_n 3, 1) := by decide +kernel
theorem dX4_take_33 : decode cX4_take 33 = .ok (.aload_n 0, 1) := by decide +kernel
theorem dX4_take_34 : decode cX4_take 34 = .ok (.getfield 9, 3) := by decide +kernel
theorem dX4_take_37 : decode cX4_take 37 = .ok (.if_icmp .le 8, 3) := by decide +kernel
theorem dX4_take_40 : decode cX4_take 40 = .ok (.aload_n 0, 1) := by decide +kernel
theorem dX4_take_41 : decode cX4_take 41 = .ok (.iload_n 3, 1) := by decide +kernel
theorem dX4_take_42 : decode cX4_take 42 = .ok (.putfield 9, 3) := by decide +kernel
theorem dX4_take_45 : decode cX4_take 45 = .ok (.aload_n 0, 1) := by decide +kernel
theorem dX4_take_46 : decode cX4_take 46 = .ok (.dup, 1) := by decide +kernel
theorem dX4_take_47 : decode cX4_take 47 = .ok (.getfield 21, 3) := by decide +kernel
theorem dX4_take_50 : decode cX4_take 50 = .ok (.iload_n 3, 1) := by decide +kernel
theorem dX4_take_51 : decode cX4_take 51 = .ok (.iadd, 1) := by decide +kernel
theorem dX4_take_52 : decode cX4_take 52 = .ok (.putfield 21, 3) := by decide +kernel
theorem dX4_take_55 : decode cX4_take 55 = .ok (.aload_n 0, 1) := by decide +kernel
theorem dX4_take_56 : decode cX4_take 56 = .ok (.dup, 1) := by decide +kernel
theorem dX4_take_57 : decode cX4_take 57 = .ok (.getfield 18, 3) := by decide +kernel
theorem dX4_take_60 : decode cX4_take 60 = .ok (.iconst 1, 1) := by decide +kernel
theorem dX4_take_61 : decode cX4_take 61 = .ok (.iadd, 1) := by decide +kernel
theorem dX4_take_62 : decode cX4_take 62 = .ok (.putfield 18, 3) := by decide +kernel
theorem dX4_take_65 : decode cX4_take 65 = .ok (.return_, 1) := by decide +kernel
theorem dX4_tell_0 : decode cX4_tell 0 = .ok (.iload_n 1, 1) := by decide +kernel
theorem dX4_tell_1 : decode cX4_tell 1 = .ok (.ifCond .ne 10, 3) := by decide +kernel
theorem dX4_tell_4 : decode cX4_tell 4 = .ok (.aload_n 0, 1) := by decide +kernel
theorem dX4_tell_5 : decode cX4_tell 5 = .ok (.getfield 21, 3) := by decide +kernel
theorem dX4_tell_8 : decode cX4_tell 8 = .ok (.goto 31, 3) := by decide +kernel
theorem dX4_tell_11 : decode cX4_tell 11 = .ok (.iload_n 1, 1) := by decide +kernel
theorem dX4_tell_12 : decode cX4_tell 12 = .ok (.iconst 1, 1) := by decide +kernel
theorem dX4_tell_13 : decode cX4_tell 13 = .ok (.if_icmp .ne 10, 3) := by decide +kernel
theorem dX4_tell_16 : decode cX4_tell 16 = .ok (.aload_n 0, 1) := by decide +kernel
theorem dX4_tell_17 : decode cX4_tell 17 = .ok (.getfield 18, 3) := by decide +kernel
theorem dX4_tell_20 : decode cX4_tell 20 = .ok (.goto 19, 3) := by decide +kernel
theorem dX4_tell_23 : decode cX4_tell 23 = .ok (.iload_n 1, 1) := by decide +kernel
theorem dX4_tell_24 : decode cX4_tell 24 = .ok (.iconst 2, 1) := by decide +kernel
theorem dX4_tell_25 : decode cX4_tell 25 = .ok (.if_icmp .ne 10, 3) := by decide +kernel
theorem dX4_tell_28 : decode cX4_tell 28 = .ok (.aload_n 0, 1) := by decide +kernel
theorem dX4_tell_29 : decode cX4_tell 29 = .ok (.getfield 9, 3) := by decide +kernel
theorem dX4_tell_32 : decode cX4_tell 32 = .ok (.goto 7, 3) := by decide +kernel
theorem dX4_tell_35 : decode cX4_tell 35 = .ok (.aload_n 0, 1) := by decide +kernel
theorem dX4_tell_36 : decode cX4_tell 36 = .ok (.getfield 15, 3) := by decide +kernel
theorem dX4_tell_39 : decode cX4_tell 39 = .ok (.ireturn, 1) := by decide +kernel
theorem dX5_init_0 : decode cX5_init 0 = .ok (.aload_n 0, 1) := by decide +kernel
theorem dX5_init_1 : decode cX5_init 1 = .ok (.invokespecial 3, 3) := by decide +kernel
theorem dX5_init_4 : decode cX5_init 4 = .ok (.aload_n 0, 1) := by decide +kernel
theorem dX5_init_5 : decode cX5_init 5 = .ok (.bipush 24, 2) := by decide +kernel
theorem dX5_init_7 : decode cX5_init 7 = .ok (.anewarray 9, 3) := by decide +kernel
theorem dX5_init_10 : decode cX5_init 10 = .ok (.putfield 11, 3) := by decide +kernel
theorem dX5_init_13 : decode cX5_init 13 = .ok (.aload_n 0, 1) := by decide +kernel
theorem dX5_init_14 : decode cX5_init 14 = .ok (.sipush 200, 3) := by decide +kernel
theorem dX5_init_17 : decode cX5_init 17 = .ok (.anewarray 15, 3) := by decide +kernel
theorem dX5_init_20 : decode cX5_init 20 = .ok (.putfield 17, 3) := by decide +kernel
theorem dX5_init_23 : decode cX5_init 23 = .ok (.aload_n 0, 1) := by decide +kernel
theorem dX5_init_24 : decode cX5_init 24 = .ok (.new 21, 3) := by decide +kernel
theorem dX5_init_27 : decode cX5_init 27 = .ok (.dup, 1) := by decide +kernel
theorem dX5_init_28 : decode cX5_init 28 = .ok (.invokespecial 23, 3) := by decide +kernel
theorem dX5_init_31 : decode cX5_init 31 = .ok (.putfield 24, 3) := by decide +kernel
theorem dX5_init_34 : decode cX5_init 34 = .ok (.aload_n 0, 1) := by decide +kernel
theorem dX5_init_35 : decode cX5_init 35 = .ok (.bipush 12, 2) := by decide +kernel
theorem dX5_init_37 : decode cX5_init 37 = .ok (.anewarray 28, 3) := by decide +kernel
theorem dX5_init_40 : decode cX5_init 40 = .ok (.putfield 30, 3) := by decide +kernel
theorem dX5_init_43 : decode cX5_init 43 = .ok (.aload_n 0, 1) := by decide +kernel
theorem dX5_init_44 : decode cX5_init 44 = .ok (.sipush 144, 3) := by decide +kernel
theorem dX5_init_47 : decode cX5_init 47 = .ok (.newarray .int, 2) := by decide +kernel
theorem dX5_init_49 : decode cX5_init 49 = .ok (.putfield 34, 3) := by decide +kernel
theorem dX5_init_52 : decode cX5_init 52 = .ok (.aload_n 0, 1) := by decide +kernel
theorem dX5_init_53 : decode cX5_init 53 = .ok (.sipush 144, 3) := by decide +kernel
theorem dX5_init_56 : decode cX5_init 56 = .ok (.newarray .int, 2) := by decide +kernel
theorem dX5_init_58 : decode cX5_init 58 = .ok (.putfield 38, 3) := by decide +kernel
theorem dX5_init_61 : decode cX5_init 61 = .ok (.iconst 0, 1) := by decide +kernel
theorem dX5_init_62 : decode cX5_init 62 = .ok (.istore_n 1, 1) := by decide +kernel
theorem dX5_init_63 : decode cX5_init 63 = .ok (.iload_n 1, 1) := by decide +kernel
theorem dX5_init_64 : decode cX5_init 64 = .ok (.aload_n 0, 1) := by decide +kernel
theorem dX5_init_65 : decode cX5_init 65 = .ok (.getfield 30, 3) := by decide +kernel
theorem dX5_init_68 : decode cX5_init 68 = .ok (.arraylength, 1) := by decide +kernel
theorem dX5_init_69 : decode cX5_init 69 = .ok (.if_icmp .ge 22, 3) := by decide +kernel
theorem dX5_init_72 : decode cX5_init 72 = .ok (.aload_n 0, 1) := by decide +kernel
theorem dX5_init_73 : decode cX5_init 73 = .ok (.getfield 30, 3) := by decide +kernel
theorem dX5_init_76 : decode cX5_init 76 = .ok (.iload_n 1, 1) := by decide +kernel
theorem dX5_init_77 : decode cX5_init 77 = .ok (.new 28, 3) := by decide +kernel
theorem dX5_init_80 : decode cX5_init 80 = .ok (.dup, 1) := by decide +kernel
theorem dX5_init_81 : decode cX5_init 81 = .ok (.invokespecial 41, 3) := by decide +kernel
theorem dX5_init_84 : decode cX5_init 84 = .ok (.aastore, 1) := by decide +kernel
theorem dX5_init_85 : decode cX5_init 85 = .ok (.iinc 1 1, 3) := by decide +kernel
theorem dX5_init_88 : decode cX5_init 88 = .ok (.goto (-25), 3) := by decide +kernel
theorem dX5_init_91 : decode cX5_init 91 = .ok (.return_, 1) := by decide +kernel
theorem dX5_open_0 : decode cX5_open 0 = .ok (.aload_n 0, 1) := by decide +kernel
theorem dX5_open_1 : decode cX5_open 1 = .ok (.getfield 42, 3) := by decide +kernel
theorem dX5_open_4 : decode cX5_open 4 = .ok (.bipush 24, 2) := by decide +kernel
theorem dX5_open_6 : decode cX5_open 6 = .ok (.if_icmp .lt 6, 3) := by decide +kernel
theorem dX5_open_9 : decode cX5_open 9 = .ok (.bipush (-2), 2) := by decide +kernel
theorem dX5_open_11 : decode cX5_open 11 = .ok (.ireturn, 1) := by decide +kernel
theorem dX5_open_12 : decode cX5_open 12 = .ok (.aload_n 0, 1) := by decide +kernel
theorem dX5_open_13 : decode cX5_open 13 = .ok (.getfield 11, 3) := by decide +kernel
theorem dX5_open_16 : decode cX5_open 16 = .ok (.aload_n 0, 1) := by decide +kernel
theorem dX5_open_17 : decode cX5_open 17 = .ok (.getfield 42, 3) := by decide +kernel
theorem dX5_open_20 : decode cX5_open 20 = .ok (.new 9, 3) := by decide +kernel
theorem dX5_open_23 : decode cX5_open 23 = .ok (.dup, 1) := by decide +kernel
theorem dX5_open_24 : decode cX5_open 24 = .ok (.invokespecial 46, 3) := by decide +kernel
theorem dX5_open_27 : decode cX5_open 27 = .ok (.aastore, 1) := by decide +kernel
theorem dX5_open_28 : decode cX5_open 28 = .ok (.aload_n 0, 1) := by decide +kernel
theorem dX5_open_29 : decode cX5_open 29 = .ok (.dup, 1) := by decide +kernel
theorem dX5_open_30 : decode cX5_open 30 = .ok (.getfield 42, 3) := by decide +kernel
theorem dX5_open_33 : decode cX5_open 33 = .ok (.dup_x1, 1) := by decide +kernel
theorem dX5_open_34 : decode cX5_open 34 = .ok (.iconst 1, 1) := by decide +kernel
theorem dX5_open_35 : decode cX5_open 35 = .ok (.iadd, 1) := by decide +kernel
theorem dX5_open_36 : decode cX5_open 36 = .ok (.putfield 42, 3) := by decide +kernel
theorem dX5_open_39 : decode cX5_open 39 = .ok (.ireturn, 1) := by decide +kernel
theorem dX5_add_0 : decode cX5_add 0 = .ok (.aload_n 0, 1) := by decide +kernel
theorem dX5_add_1 : decode cX5_add 1 = .ok (.iload_n 1, 1) := by decide +kernel
theorem dX5_add_2 : decode cX5_add 2 = .ok (.invokevirtual 47, 3) := by decide +kernel
theorem dX5_add_5 : decode cX5_add 5 = .ok (.astore 6, 2) := by decide +kernel
theorem dX5_add_7 : decode cX5_add 7 = .ok (.aload 6, 2) := by decide +kernel
theorem dX5_add_9 : decode cX5_add 9 = .ok (.ifnull 33, 3) := by decide +kernel
theorem dX5_add_12 : decode cX5_add 12 = .ok (.iload_n 2, 1) := by decide +kernel
theorem dX5_add_13 : decode cX5_add 13 = .ok (.invokestatic 51, 3) := by decide +kernel
theorem dX5_add_16 : decode cX5_add 16 = .ok (.ifCond .eq 26, 3) := by decide +kernel
theorem dX5_add_19 : decode cX5_add 19 = .ok (.iload_n 3, 1) := by decide +kernel
theorem dX5_add_20 : decode cX5_add 20 = .ok (.invokestatic 55, 3) := by decide +kernel
theorem dX5_add_23 : decode cX5_add 23 = .ok (.ifCond .eq 19, 3) := by decide +kernel
theorem dX5_add_26 : decode cX5_add 26 = .ok (.iload 4, 2) := by decide +kernel
theorem dX5_add_28 : decode cX5_add 28 = .ok (.invokestatic 58, 3) := by decide +kernel
theorem dX5_add_31 : decode cX5_add 31 = .ok (.ifCond .eq 11, 3) := by decide +kernel
theorem dX5_add_34 : decode cX5_add 34 = .ok (.iload 5, 2) := by decide +kernel
theorem dX5_add_36 : decode cX5_add 36 = .ok (.invokestatic 58, 3) := by decide +kernel
theorem dX5_add_39 : decode cX5_add 39 = .ok (.ifCond .ne 5, 3) := by decide +kernel
theorem dX5_add_42 : decode cX5_add 42 = .ok (.iconst (-1), 1) := by decide +kernel
theorem dX5_add_43 : decode cX5_add 43 = .ok (.ireturn, 1) := by decide +kernel
theorem dX5_add_44 : decode cX5_add 44 = .ok (.aload 6, 2) := by decide +kernel
theorem dX5_add_46 : decode cX5_add 46 = .ok (.getfield 61, 3) := by decide +kernel
theorem dX5_add_49 : decode cX5_add 49 = .ok (.bipush 6, 2) := by decide +kernel
theorem dX5_add_51 : decode cX5_add 51 = .ok (.if_icmp .lt 6, 3) := by decide +kernel
theorem dX5_add_54 : decode cX5_add 54 = .ok (.bipush (-2), 2) := by decide +kernel
theorem dX5_add_56 : decode cX5_add 56 = .ok (.ireturn, 1) := by decide +kernel
theorem dX5_add_57 : decode cX5_add 57 = .ok (.aload 6, 2) := by decide +kernel
theorem dX5_add_59 : decode cX5_add 59 = .ok (.iload_n 2, 1) := by decide +kernel
theorem dX5_add_60 : decode cX5_add 60 = .ok (.iload_n 3, 1) := by decide +kernel
theorem dX5_add_61 : decode cX5_add 61 = .ok (.iload 4, 2) := by decide +kernel
theorem dX5_add_63 : decode cX5_add 63 = .ok (.iload 5, 2) := by decide +kernel
theorem dX5_add_65 : decode cX5_add 65 = .ok (.invokevirtual 64, 3) := by decide +kernel
theorem dX5_add_68 : decode cX5_add 68 = .ok (.aload 6, 2) := by decide +kernel
theorem dX5_add_70 : decode cX5_add 70 = .ok (.getfield 61, 3) := by decide +kernel
theorem dX5_add_73 : decode cX5_add 73 = .ok (.ireturn, 1) := by decide +kernel
theorem dX5_cut_0 : decode cX5_cut 0 = .ok (.aload_n 0, 1) := by decide +kernel
theorem dX5_cut_1 : decode cX5_cut 1 = .ok (.iload_n 1, 1) := by decide +kernel
theorem dX5_cut_2 : decode cX5_cut 2 = .ok (.invokevirtual 47, 3) := by decide +kernel
theorem dX5_cut_5 : decode cX5_cut 5 = .ok (.astore_n 2, 1) := by decide +kernel
theorem dX5_cut_6 : decode cX5_cut 6 = .ok (.aload_n 2, 1) := by decide +kernel
theorem dX5_cut_7 : decode cX5_cut 7 = .ok (.ifnull 10, 3) := by decide +kernel
theorem dX5_cut_10 : decode cX5_cut 10 = .ok (.aload_n 2, 1) := by decide +kernel
theorem dX5_cut_11 : decode cX5_cut 11 = .ok (.getfield 61, 3) := by decide +kernel
theorem dX5_cut_14 : decode cX5_cut 14 = .ok (.ifCond .ne 5, 3) := by decide +kernel
theorem dX5_cut_17 : decode cX5_cut 17 = .ok (.iconst (-1), 1) := by decide +kernel
theorem dX5_cut_18 : decode cX5_cut 18 = .ok (.ireturn, 1) := by decide +kernel
theorem dX5_cut_19 : decode cX5_cut 19 = .ok (.aload_n 2, 1) := by decide +kernel
theorem dX5_cut_20 : decode cX5_cut 20 = .ok (.dup, 1) := by decide +kernel
theorem dX5_cut_21 : decode cX5_cut 21 = .ok (.getfield 61, 3) := by decide +kernel
theorem dX5_cut_24 : decode cX5_cut 24 = .ok (.iconst 1, 1) := by decide +kernel
theorem dX5_cut_25 : decode cX5_cut 25 = .ok (.isub, 1) := by decide +kernel
theorem dX5_cut_26 : decode cX5_cut 26 = .ok (.putfield 61, 3) := by decide +kernel
theorem dX5_cut_29 : decode cX5_cut 29 = .ok (.aload_n 2, 1) := by decide +kernel
theorem dX5_cut_30 : decode cX5_cut 30 = .ok (.getfield 61, 3) := by decide +kernel
theorem dX5_cut_33 : decode cX5_cut 33 = .ok (.ireturn, 1) := by decide +kernel
theorem dX5_drop_0 : decode cX5_drop 0 = .ok (.aload_n 0, 1) := by decide +kernel
theorem dX5_drop_1 : decode cX5_drop 1 = .ok (.iload_n 1, 1) := by decide +kernel
theorem dX5_drop_2 : decode cX5_drop 2 = .ok (.invokevirtual 68, 3) := by decide +kernel
theorem dX5_drop_5 : decode cX5_drop 5 = .ok (.astore_n 3, 1) := by decide +kernel
theorem dX5_drop_6 : decode cX5_drop 6 = .ok (.aload_n 3, 1) := by decide +kernel
theorem dX5_drop_7 : decode cX5_drop 7 = .ok (.ifnonnull 5, 3) := by decide +kernel
theorem dX5_drop_10 : decode cX5_drop 10 = .ok (.iconst (-1), 1) := by decide +kernel
theorem dX5_drop_11 : decode cX5_drop 11 = .ok (.ireturn, 1) := by decide +kernel
theorem dX5_drop_12 : decode cX5_drop 12 = .ok (.aload_n 3, 1) := by decide +kernel
theorem dX5_drop_13 : decode cX5_drop 13 = .ok (.getfield 71, 3) := by decide +kernel
theorem dX5_drop_16 : decode cX5_drop 16 = .ok (.ifCond .eq 7, 3) := by decide +kernel
theorem dX5_drop_19 : decode cX5_drop 19 = .ok (.iconst 1, 1) := by decide +kernel
theorem dX5_drop_20 : decode cX5_drop 20 = .ok (.goto 4, 3) := by decide +kernel
theorem dX5_drop_23 : decode cX5_drop 23 = .ok (.iconst 0, 1) := by decide +kernel
theorem dX5_drop_24 : decode cX5_drop 24 = .ok (.istore 4, 2) := by decide +kernel
theorem dX5_drop_26 : decode cX5_drop 26 = .ok (.aload_n 3, 1) := by decide +kernel
theorem dX5_drop_27 : decode cX5_drop 27 = .ok (.iload_n 2, 1) := by decide +kernel
theorem dX5_drop_28 : decode cX5_drop 28 = .ok (.putfield 71, 3) := by decide +kernel
theorem dX5_drop_31 : decode cX5_drop 31 = .ok (.iload 4, 2) := by decide +kernel
theorem dX5_drop_33 : decode cX5_drop 33 = .ok (.ireturn, 1) := by decide +kernel
theorem dX5_told_0 : decode cX5_told 0 = .ok (.aload_n 0, 1) := by decide +kernel
theorem dX5_told_1 : decode cX5_told 1 = .ok (.iload_n 1, 1) := by decide +kernel
theorem dX5_told_2 : decode cX5_told 2 = .ok (.invokevirtual 68, 3) := by decide +kernel
theorem dX5_told_5 : decode cX5_told 5 = .ok (.astore 4, 2) := by decide +kernel
theorem dX5_told_7 : decode cX5_told 7 = .ok (.aload 4, 2) := by decide +kernel
theorem dX5_told_9 : decode cX5_told 9 = .ok (.ifnonnull 6, 3) := by decide +kernel
theorem dX5_told_12 : decode cX5_told 12 = .ok (.bipush (-9), 2) := by decide +kernel
theorem dX5_told_14 : decode cX5_told 14 = .ok (.ireturn, 1) := by decide +kernel
theorem dX5_told_15 : decode cX5_told 15 = .ok (.iload_n 2, 1) := by decide +kernel
theorem dX5_told_16 : decode cX5_told 16 = .ok (.iconst (-1), 1) := by decide +kernel
theorem dX5_told_17 : decode cX5_told 17 = .ok (.if_icmp .ne 13, 3) := by decide +kernel
theorem dX5_told_20 : decode cX5_told 20 = .ok (.iload_n 3, 1) := by decide +kernel
theorem dX5_told_21 : decode cX5_told 21 = .ok (.ifCond .ne 9, 3) := by decide +kernel
theorem dX5_told_24 : decode cX5_told 24 = .ok (.aload 4, 2) := by decide +kernel
theorem dX5_told_26 : decode cX5_told 26 = .ok (.getfield 61, 3) := by decide +kernel
theorem dX5_told_29 : decode cX5_told 29 = .ok (.ireturn, 1) := by decide +kernel
theorem dX5_told_30 : decode cX5_told 30 = .ok (.iload_n 2, 1) := by decide +kernel
theorem dX5_told_31 : decode cX5_told 31 = .ok (.iconst (-1), 1) := by decide +kernel
theorem dX5_told_32 : decode cX5_told 32 = .ok (.if_icmp .ne 22, 3) := by decide +kernel
theorem dX5_told_35 : decode cX5_told 35 = .ok (.iload_n 3, 1) := by decide +kernel
theorem dX5_told_36 : decode cX5_told 36 = .ok (.iconst 1, 1) := by decide +kernel
theorem dX5_told_37 : decode cX5_told 37 = .ok (.if_icmp .ne 17, 3) := by decide +kernel
theorem dX5_told_40 : decode cX5_told 40 = .ok (.aload 4, 2) := by decide +kernel
theorem dX5_told_42 : decode cX5_told 42 = .ok (.getfield 71, 3) := by decide +kernel
theorem dX5_told_45 : decode cX5_told 45 = .ok (.ifCond .eq 7, 3) := by decide +kernel
theorem dX5_told_48 : decode cX5_told 48 = .ok (.iconst 1, 1) := by decide +kernel
theorem dX5_told_49 : decode cX5_told 49 = .ok (.goto 4, 3) := by decide +kernel
theorem dX5_told_52 : decode cX5_told 52 = .ok (.iconst 0, 1) := by decide +kernel
theorem dX5_told_53 : decode cX5_told 53 = .ok (.ireturn, 1) := by decide +kernel
theorem dX5_told_54 : decode cX5_told 54 = .ok (.iload_n 2, 1) := by decide +kernel
theorem dX5_told_55 : decode cX5_told 55 = .ok (.ifCond .lt 21, 3) := by decide +kernel
theorem dX5_told_58 : decode cX5_told 58 = .ok (.iload_n 2, 1) := by decide +kernel
theorem dX5_told_59 : decode cX5_told 59 = .ok (.aload 4, 2) := by decide +kernel
theorem dX5_told_61 : decode cX5_told 61 = .ok (.getfield 61, 3) := by decide +kernel
theorem dX5_told_64 : decode cX5_told 64 = .ok (.if_icmp .ge 12, 3) := by decide +kernel
theorem dX5_told_67 : decode cX5_told 67 = .ok (.iload_n 3, 1) := by decide +kernel
theorem dX5_told_68 : decode cX5_told 68 = .ok (.ifCond .lt 8, 3) := by decide +kernel
theorem dX5_told_71 : decode cX5_told 71 = .ok (.iload_n 3, 1) := by decide +kernel
theorem dX5_told_72 : decode cX5_told 72 = .ok (.iconst 3, 1) := by decide +kernel
theorem dX5_told_73 : decode cX5_told 73 = .ok (.if_icmp .le 6, 3) := by decide +kernel
theorem dX5_told_76 : decode cX5_told 76 = .ok (.bipush (-9), 2) := by decide +kernel
theorem dX5_told_78 : decode cX5_told 78 = .ok (.ireturn, 1) := by decide +kernel
theorem dX5_told_79 : decode cX5_told 79 = .ok (.aload 4, 2) := by decide +kernel
theorem dX5_told_81 : decode cX5_told 81 = .ok (.iload_n 2, 1) := by decide +kernel
theorem dX5_told_82 : decode cX5_told 82 = .ok (.iload_n 3, 1) := by decide +kernel
theorem dX5_told_83 : decode cX5_told 83 = .ok (.invokevirtual 75, 3) := by decide +kernel
theorem dX5_told_86 : decode cX5_told 86 = .ok (.ireturn, 1) := by decide +kernel
theorem dX5_follows_0 : decode cX5_follows 0 = .ok (.iload_n 1, 1) := by decide +kernel
theorem dX5_follows_1 : decode cX5_follows 1 = .ok (.invokestatic 51, 3) := by decide +kernel
theorem dX5_follows_4 : decode cX5_follows 4 = .ok (.ifCond .eq 10, 3) := by decide +kernel
theorem dX5_follows_7 : decode cX5_follows 7 = .ok (.iload_n 2, 1) := by decide +kernel
theorem dX5_follows_8 : decode cX5_follows 8 = .ok (.invokestatic 51, 3) := by decide +kernel
theorem dX5_follows_11 : decode cX5_follows 11 = .ok (.ifCond .ne 5, 3) := by decide +kernel
theorem dX5_follows_14 : decode cX5_follows 14 = .ok (.iconst (-1), 1) := by decide +kernel
theorem dX5_follows_15 : decode cX5_follows 15 = .ok (.ireturn, 1) := by decide +kernel
theorem dX5_follows_16 : decode cX5_follows 16 = .ok (.aload_n 0, 1) := by decide +kernel
theorem dX5_follows_17 : decode cX5_follows 17 = .ok (.iconst 0, 1) := by decide +kernel
theorem dX5_follows_18 : decode cX5_follows 18 = .ok (.iload_n 2, 1) := by decide +kernel
theorem dX5_follows_19 : decode cX5_follows 19 = .ok (.iload_n 1, 1) := by decide +kernel
theorem dX5_follows_20 : decode cX5_follows 20 = .ok (.invokevirtual 79, 3) := by decide +kernel
theorem dX5_follows_23 : decode cX5_follows 23 = .ok (.ireturn, 1) := by decide +kernel
theorem dX5_stands_0 : decode cX5_stands 0 = .ok (.iload_n 1, 1) := by decide +kernel
theorem dX5_stands_1 : decode cX5_stands 1 = .ok (.invokestatic 51, 3) := by decide +kernel
theorem dX5_stands_4 : decode cX5_stands 4 = .ok (.ifCond .eq 12, 3) := by decide +kernel
theorem dX5_stands_7 : decode cX5_stands 7 = .ok (.iload_n 2, 1) := by decide +kernel
theorem dX5_stands_8 : decode cX5_stands 8 = .ok (.ifCond .lt 8, 3) := by decide +kernel
theorem dX5_stands_11 : decode cX5_stands 11 = .ok (.iload_n 2, 1) := by decide +kernel
theorem dX5_stands_12 : decode cX5_stands 12 = .ok (.iconst 2, 1) := by decide +kernel
theorem dX5_stands_13 : decode cX5_stands 13 = .ok (.if_icmp .le 5, 3) := by decide +kernel
theorem dX5_stands_16 : decode cX5_stands 16 = .ok (.iconst (-1), 1) := by decide +kernel
theorem dX5_stands_17 : decode cX5_stands 17 = .ok (.ireturn, 1) := by decide +kernel
theorem dX5_stands_18 : decode cX5_stands 18 = .ok (.iconst 0, 1) := by decide +kernel
theorem dX5_stands_19 : decode cX5_stands 19 = .ok (.istore_n 3, 1) := by decide +kernel
theorem dX5_stands_20 : decode cX5_stands 20 = .ok (.iconst 0, 1) := by decide +kernel
theorem dX5_stands_21 : decode cX5_stands 21 = .ok (.istore 4, 2) := by decide +kernel
theorem dX5_stands_23 : decode cX5_stands 23 = .ok (.iload 4, 2) := by decide +kernel
theorem dX5_stands_25 : decode cX5_stands 25 = .ok (.aload_n 0, 1) := by decide +kernel
theorem dX5_stands_26 : decode cX5_stands 26 = .ok (.getfield 42, 3) := by decide +kernel
theorem dX5_stands_29 : decode cX5_stands 29 = .ok (.if_icmp .ge 90, 3) := by decide +kernel
theorem dX5_stands_32 : decode cX5_stands 32 = .ok (.aload_n 0, 1) := by decide +kernel
theorem dX5_stands_33 : decode cX5_stands 33 = .ok (.iload 4, 2) := by decide +kernel
theorem dX5_stands_35 : decode cX5_stands 35 = .ok (.invokevirtual 47, 3) := by decide +kernel
theorem dX5_stands_38 : decode cX5_stands 38 = .ok (.astore 5, 2) := by decide +kernel
theorem dX5_stands_40 : decode cX5_stands 40 = .ok (.aload 5, 2) := by decide +kernel
theorem dX5_stands_42 : decode cX5_stands 42 = .ok (.ifnull 71, 3) := by decide +kernel
theorem dX5_stands_45 : decode cX5_stands 45 = .ok (.aload 5, 2) := by decide +kernel
theorem dX5_stands_47 : decode cX5_stands 47 = .ok (.getfield 61, 3) := by decide +kernel
theorem dX5_stands_50 : decode cX5_stands 50 = .ok (.ifCond .ne 6, 3) := by decide +kernel
theorem dX5_stands_53 : decode cX5_stands 53 = .ok (.goto 60, 3) := by decide +kernel
theorem dX5_stands_56 : decode cX5_stands 56 = .ok (.iload_n 2, 1) := by decide +kernel
theorem dX5_stands_57 : decode cX5_stands 57 = .ok (.ifCond .ne 17, 3) := by decide +kernel
theorem dX5_stands_60 : decode cX5_stands 60 = .ok (.aload 5, 2) := by decide +kernel
theorem dX5_stands_62 : decode cX5_stands 62 = .ok (.iconst 0, 1) := by decide +kernel
theorem dX5_stands_63 : decode cX5_stands 63 = .ok (.iconst 0, 1) := by decide +kernel
theorem dX5_stands_64 : decode cX5_stands 64 = .ok (.invokevirtual 75, 3) := by decide +kernel
theorem dX5_stands_67 : decode cX5_stands 67 = .ok (.iload_n 1, 1) := by decide +kernel
theorem dX5_stands_68 : decode cX5_stands 68 = .ok (.if_icmp .ne 6, 3) := by decide +kernel
theorem dX5_stands_71 : decode cX5_stands 71 = .ok (.iinc 3 1, 3) := by decide +kernel
theorem dX5_stands_74 : decode cX5_stands 74 = .ok (.iload_n 2, 1) := by decide +kernel
theorem dX5_stands_75 : decode cX5_stands 75 = .ok (.iconst 1, 1) := by decide +kernel
theorem dX5_stands_76 : decode cX5_stands 76 = .ok (.if_icmp .ne 23, 3) := by decide +kernel
theorem dX5_stands_79 : decode cX5_stands 79 = .ok (.aload 5, 2) := by decide +kernel
theorem dX5_stands_81 : decode cX5_stands 81 = .ok (.aload 5, 2) := by decide +kernel
theorem dX5_stands_83 : decode cX5_stands 83 = .ok (.getfield 61, 3) := by decide +kernel
theorem dX5_stands_86 : decode cX5_stands 86 = .ok (.iconst 1, 1) := by decide +kernel
theorem dX5_stands_87 : decode cX5_stands 87 = .ok (.isub, 1) := by decide +kernel
theorem dX5_stands_88 : decode cX5_stands 88 = .ok (.iconst 0, 1) := by decide +kernel
theorem dX5_stands_89 : decode cX5_stands 89 = .ok (.invokevirtual 75, 3) := by decide +kernel
theorem dX5_stands_92 : decode cX5_stands 92 = .ok (.iload_n 1, 1) := by decide +kernel
theorem dX5_stands_93 : decode cX5_stands 93 = .ok (.if_icmp .ne 6, 3) := by decide +kernel
theorem dX5_stands_96 : decode cX5_stands 96 = .ok (.iinc 3 1, 3) := by decide +kernel
theorem dX5_stands_99 : decode cX5_stands 99 = .ok (.iload_n 2, 1) := by decide +kernel
theorem dX5_stands_100 : decode cX5_stands 100 = .ok (.iconst 2, 1) := by decide +kernel
theorem dX5_stands_101 : decode cX5_stands 101 = .ok (.if_icmp .ne 12, 3) := by decide +kernel
theorem dX5_stands_104 : decode cX5_stands 104 = .ok (.iload_n 3, 1) := by decide +kernel
theorem dX5_stands_105 : decode cX5_stands 105 = .ok (.aload 5, 2) := by decide +kernel
theorem dX5_stands_107 : decode cX5_stands 107 = .ok (.iload_n 1, 1) := by decide +kernel
theorem dX5_stands_108 : decode cX5_stands 108 = .ok (.invokevirtual 83, 3) := by decide +kernel
theorem dX5_stands_111 : decode cX5_stands 111 = .ok (.iadd, 1) := by decide +kernel
theorem dX5_stands_112 : decode cX5_stands 112 = .ok (.istore_n 3, 1) := by decide +kernel
theorem dX5_stands_113 : decode cX5_stands 113 = .ok (.iinc 4 1, 3) := by decide +kernel
theorem dX5_stands_116 : decode cX5_stands 116 = .ok (.goto (-93), 3) := by decide +kernel
theorem dX5_stands_119 : decode cX5_stands 119 = .ok (.iload_n 3, 1) := by decide +kernel
theorem dX5_stands_120 : decode cX5_stands 120 = .ok (.ireturn, 1) := by decide +kernel
theorem dX5_deed_0 : decode cX5_deed 0 = .ok (.iload_n 1, 1) := by decide +kernel
theorem dX5_deed_1 : decode cX5_deed 1 = .ok (.iconst (-1), 1) := by decide +kernel
theorem dX5_deed_2 : decode cX5_deed 2 = .ok (.if_icmp .eq 12, 3) := by decide +kernel
theorem dX5_deed_5 : decode cX5_deed 5 = .ok (.iload_n 1, 1) := by decide +kernel
theorem dX5_deed_6 : decode cX5_deed 6 = .ok (.invokestatic 51, 3) := by decide +kernel
theorem dX5_deed_9 : decode cX5_deed 9 = .ok (.ifCond .ne 5, 3) := by decide +kernel
theorem dX5_deed_12 : decode cX5_deed 12 = .ok (.iconst (-1), 1) := by decide +kernel
theorem dX5_deed_13 : decode cX5_deed 13 = .ok (.ireturn, 1) := by decide +kernel
theorem dX5_deed_14 : decode cX5_deed 14 = .ok (.aload_n 0, 1) := by decide +kernel
theorem dX5_deed_15 : decode cX5_deed 15 = .ok (.iload_n 1, 1) := by decide +kernel
theorem dX5_deed_16 : decode cX5_deed 16 = .ok (.iconst (-1), 1) := by decide +kernel
theorem dX5_deed_17 : decode cX5_deed 17 = .ok (.if_icmp .ne 9, 3) := by decide +kernel
theorem dX5_deed_20 : decode cX5_deed 20 = .ok (.invokestatic 87, 3) := by decide +kernel
theorem dX5_deed_23 : decode cX5_deed 23 = .ok (.goto 7, 3) := by decide +kernel
theorem dX5_deed_26 : decode cX5_deed 26 = .ok (.iload_n 1, 1) := by decide +kernel
theorem dX5_deed_27 : decode cX5_deed 27 = .ok (.invokestatic 91, 3) := by decide +kernel
theorem dX5_deed_30 : decode cX5_deed 30 = .ok (.iconst 1, 1) := by decide +kernel
theorem dX5_deed_31 : decode cX5_deed 31 = .ok (.invokevirtual 95, 3) := by decide +kernel
theorem dX5_deed_34 : decode cX5_deed 34 = .ok (.ireturn, 1) := by decide +kernel
theorem dX5_join_0 : decode cX5_join 0 = .ok (.aload_n 0, 1) := by decide +kernel
theorem dX5_join_1 : decode cX5_join 1 = .ok (.iload_n 2, 1) := by decide +kernel
theorem dX5_join_2 : decode cX5_join 2 = .ok (.invokevirtual 99, 3) := by decide +kernel
theorem dX5_join_5 : decode cX5_join 5 = .ok (.astore 4, 2) := by decide +kernel
theorem dX5_join_7 : decode cX5_join 7 = .ok (.aload_n 0, 1) := by decide +kernel
theorem dX5_join_8 : decode cX5_join 8 = .ok (.iload_n 3, 1) := by decide +kernel
theorem dX5_join_9 : decode cX5_join 9 = .ok (.invokevirtual 99, 3) := by decide +kernel
theorem dX5_join_12 : decode cX5_join 12 = .ok (.astore 5, 2) := by decide +kernel
theorem dX5_join_14 : decode cX5_join 14 = .ok (.iload_n 1, 1) := by decide +kernel
theorem dX5_join_15 : decode cX5_join 15 = .ok (.iconst 2, 1) := by decide +kernel
theorem dX5_join_16 : decode cX5_join 16 = .ok (.if_icmp .lt 18, 3) := by decide +kernel
theorem dX5_join_19 : decode cX5_join 19 = .ok (.iload_n 1, 1) := by decide +kernel
theorem dX5_join_20 : decode cX5_join 20 = .ok (.iconst 5, 1) := by decide +kernel
theorem dX5_join_21 : decode cX5_join 21 = .ok (.if_icmp .gt 13, 3) := by decide +kernel
theorem dX5_join_24 : decode cX5_join 24 = .ok (.aload 4, 2) := by decide +kernel
theorem dX5_join_26 : decode cX5_join 26 = .ok (.ifnull 8, 3) := by decide +kernel
theorem dX5_join_29 : decode cX5_join 29 = .ok (.aload 5, 2) := by decide +kernel
theorem dX5_join_31 : decode cX5_join 31 = .ok (.ifnonnull 5, 3) := by decide +kernel
theorem dX5_join_34 : decode cX5_join 34 = .ok (.iconst (-1), 1) := by decide +kernel
theorem dX5_join_35 : decode cX5_join 35 = .ok (.ireturn, 1) := by decide +kernel
theorem dX5_join_36 : decode cX5_join 36 = .ok (.aload_n 0, 1) := by decide +kernel
theorem dX5_join_37 : decode cX5_join 37 = .ok (.iload_n 1, 1) := by decide +kernel
theorem dX5_join_38 : decode cX5_join 38 = .ok (.aload 4, 2) := by decide +kernel
theorem dX5_join_40 : decode cX5_join 40 = .ok (.aload 5, 2) := by decide +kernel
theorem dX5_join_42 : decode cX5_join 42 = .ok (.invokestatic 102, 3) := by decide +kernel
theorem dX5_join_45 : decode cX5_join 45 = .ok (.iconst 1, 1) := by decide +kernel
theorem dX5_join_46 : decode cX5_join 46 = .ok (.invokevirtual 95, 3) := by decide +kernel
theorem dX5_join_49 : decode cX5_join 49 = .ok (.ireturn, 1) := by decide +kernel
theorem dX5_more_0 : decode cX5_more 0 = .ok (.aload_n 0, 1) := by decide +kernel
theorem dX5_more_1 : decode cX5_more 1 = .ok (.iload_n 1, 1) := by decide +kernel
theorem dX5_more_2 : decode cX5_more 2 = .ok (.invokevirtual 99, 3) := by decide +kernel
theorem dX5_more_5 : decode cX5_more 5 = .ok (.astore_n 3, 1) := by decide +kernel
theorem dX5_more_6 : decode cX5_more 6 = .ok (.aload_n 0, 1) := by decide +kernel
theorem dX5_more_7 : decode cX5_more 7 = .ok (.iload_n 2, 1) := by decide +kernel
theorem dX5_more_8 : decode cX5_more 8 = .ok (.invokevirtual 99, 3) := by decide +kernel
theorem dX5_more_11 : decode cX5_more 11 = .ok (.astore 4, 2) := by decide +kernel
theorem dX5_more_13 : decode cX5_more 13 = .ok (.aload_n 3, 1) := by decide +kernel
theorem dX5_more_14 : decode cX5_more 14 = .ok (.ifnull 16, 3) := by decide +kernel
theorem dX5_more_17 : decode cX5_more 17 = .ok (.aload 4, 2) := by decide +kernel
theorem dX5_more_19 : decode cX5_more 19 = .ok (.ifnull 11, 3) := by decide +kernel
theorem dX5_more_22 : decode cX5_more 22 = .ok (.aload_n 3, 1) := by decide +kernel
theorem dX5_more_23 : decode cX5_more 23 = .ok (.getfield 106, 3) := by decide +kernel
theorem dX5_more_26 : decode cX5_more 26 = .ok (.arraylength, 1) := by decide +kernel
theorem dX5_more_27 : decode cX5_more 27 = .ok (.ifCond .ne 5, 3) := by decide +kernel
theorem dX5_more_30 : decode cX5_more 30 = .ok (.iconst (-1), 1) := by decide +kernel
theorem dX5_more_31 : decode cX5_more 31 = .ok (.ireturn, 1) := by decide +kernel
theorem dX5_more_32 : decode cX5_more 32 = .ok (.aload_n 3, 1) := by decide +kernel
theorem dX5_more_33 : decode cX5_more 33 = .ok (.getfield 106, 3) := by decide +kernel
theorem dX5_more_36 : decode cX5_more 36 = .ok (.arraylength, 1) := by decide +kernel
theorem dX5_more_37 : decode cX5_more 37 = .ok (.iconst 1, 1) := by decide +kernel
theorem dX5_more_38 : decode cX5_more 38 = .ok (.iadd, 1) := by decide +kernel
theorem dX5_more_39 : decode cX5_more 39 = .ok (.anewarray 15, 3) := by decide +kernel
theorem dX5_more_42 : decode cX5_more 42 = .ok (.astore 5, 2) := by decide +kernel
theorem dX5_more_44 : decode cX5_more 44 = .ok (.iconst 0, 1) := by decide +kernel
theorem dX5_more_45 : decode cX5_more 45 = .ok (.istore 6, 2) := by decide +kernel
theorem dX5_more_47 : decode cX5_more 47 = .ok (.iload 6, 2) := by decide +kernel
theorem dX5_more_49 : decode cX5_more 49 = .ok (.aload_n 3, 1) := by decide +kernel
theorem dX5_more_50 : decode cX5_more 50 = .ok (.getfield 106, 3) := by decide +kernel
theorem dX5_more_53 : decode cX5_more 53 = .ok (.arraylength, 1) := by decide +kernel
theorem dX5_more_54 : decode cX5_more 54 = .ok (.if_icmp .ge 21, 3) := by decide +kernel
theorem dX5_more_57 : decode cX5_more 57 = .ok (.aload 5, 2) := by decide +kernel
theorem dX5_more_59 : decode cX5_more 59 = .ok (.iload 6, 2) := by decide +kernel
theorem dX5_more_61 : decode cX5_more 61 = .ok (.aload_n 3, 1) := by decide +kernel
theorem dX5_more_62 : decode cX5_more 62 = .ok (.getfield 106, 3) := by decide +kernel
theorem dX5_more_65 : decode cX5_more 65 = .ok (.iload 6, 2) := by decide +kernel
theorem dX5_more_67 : decode cX5_more 67 = .ok (.aaload, 1) := by decide +kernel
theorem dX5_more_68 : decode cX5_more 68 = .ok (.aastore, 1) := by decide +kernel
theorem dX5_more_69 : decode cX5_more 69 = .ok (.iinc 6 1, 3) := by decide +kernel
theorem dX5_more_72 : decode cX5_more 72 = .ok (.goto (-25), 3) := by decide +kernel
theorem dX5_more_75 : decode cX5_more 75 = .ok (.aload 5, 2) := by decide +kernel
theorem dX5_more_77 : decode cX5_more 77 = .ok (.aload_n 3, 1) := by decide +kernel
theorem dX5_more_78 : decode cX5_more 78 = .ok (.getfield 106, 3) := by decide +kernel
theorem dX5_more_81 : decode cX5_more 81 = .ok (.arraylength, 1) := by decide +kernel
theorem dX5_more_82 : decode cX5_more 82 = .ok (.aload 4, 2) := by decide +kernel
theorem dX5_more_84 : decode cX5_more 84 = .ok (.aastore, 1) := by decide +kernel
theorem dX5_more_85 : decode cX5_more 85 = .ok (.aload_n 0, 1) := by decide +kernel
theorem dX5_more_86 : decode cX5_more 86 = .ok (.new 15, 3) := by decide +kernel
theorem dX5_more_89 : decode cX5_more 89 = .ok (.dup, 1) := by decide +kernel
theorem dX5_more_90 : decode cX5_more 90 = .ok (.aload_n 3, 1) := by decide +kernel
theorem dX5_more_91 : decode cX5_more 91 = .ok (.getfield 109, 3) := by decide +kernel
theorem dX5_more_94 : decode cX5_more 94 = .ok (.bipush (-3), 2) := by decide +kernel
theorem dX5_more_96 : decode cX5_more 96 = .ok (.aload 5, 2) := by decide +kernel
theorem dX5_more_98 : decode cX5_more 98 = .ok (.invokespecial 112, 3) := by decide +kernel
theorem dX5_more_101 : decode cX5_more 101 = .ok (.iconst 1, 1) := by decide +kernel
theorem dX5_more_102 : decode cX5_more 102 = .ok (.invokevirtual 95, 3) := by decide +kernel
theorem dX5_more_105 : decode cX5_more 105 = .ok (.ireturn, 1) := by decide +kernel
theorem dX5_piece_0 : decode cX5_piece 0 = .ok (.aload_n 0, 1) := by decide +kernel
theorem dX5_piece_1 : decode cX5_piece 1 = .ok (.iload_n 1, 1) := by decide +kernel
theorem dX5_piece_2 : decode cX5_piece 2 = .ok (.invokevirtual 99, 3) := by decide +kernel
theorem dX5_piece_5 : decode cX5_piece 5 = .ok (.astore_n 3, 1) := by decide +kernel
theorem dX5_piece_6 : decode cX5_piece 6 = .ok (.aload_n 3, 1) := by decide +kernel
theorem dX5_piece_7 : decode cX5_piece 7 = .ok (.ifnull 13, 3) := by decide +kernel
theorem dX5_piece_10 : decode cX5_piece 10 = .ok (.iload_n 2, 1) := by decide +kernel
theorem dX5_piece_11 : decode cX5_piece 11 = .ok (.ifCond .lt 9, 3) := by decide +kernel
theorem dX5_piece_14 : decode cX5_piece 14 = .ok (.iload_n 2, 1) := by decide +kernel
theorem dX5_piece_15 : decode cX5_piece 15 = .ok (.bipush 63, 2) := by decide +kernel
theorem dX5_piece_17 : decode cX5_piece 17 = .ok (.if_icmp .lt 5, 3) := by decide +kernel
theorem dX5_piece_20 : decode cX5_piece 20 = .ok (.iconst (-1), 1) := by decide +kernel
theorem dX5_piece_21 : decode cX5_piece 21 = .ok (.ireturn, 1) := by decide +kernel
theorem dX5_piece_22 : decode cX5_piece 22 = .ok (.iload_n 2, 1) := by decide +kernel
theorem dX5_piece_23 : decode cX5_piece 23 = .ok (.ifCond .ne 8, 3) := by decide +kernel
theorem dX5_piece_26 : decode cX5_piece 26 = .ok (.aload_n 3, 1) := by decide +kernel
theorem dX5_piece_27 : decode cX5_piece 27 = .ok (.getfield 109, 3) := by decide +kernel
theorem dX5_piece_30 : decode cX5_piece 30 = .ok (.ireturn, 1) := by decide +kernel
theorem dX5_piece_31 : decode cX5_piece 31 = .ok (.iload_n 2, 1) := by decide +kernel
theorem dX5_piece_32 : decode cX5_piece 32 = .ok (.iconst 1, 1) := by decide +kernel
theorem dX5_piece_33 : decode cX5_piece 33 = .ok (.if_icmp .ne 8, 3) := by decide +kernel
theorem dX5_piece_36 : decode cX5_piece 36 = .ok (.aload_n 3, 1) := by decide +kernel
theorem dX5_piece_37 : decode cX5_piece 37 = .ok (.getfield 115, 3) := by decide +kernel
theorem dX5_piece_40 : decode cX5_piece 40 = .ok (.ireturn, 1) := by decide +kernel
theorem dX5_piece_41 : decode cX5_piece 41 = .ok (.iload_n 2, 1) := by decide +kernel
theorem dX5_piece_42 : decode cX5_piece 42 = .ok (.iconst 2, 1) := by decide +kernel
theorem dX5_piece_43 : decode cX5_piece 43 = .ok (.if_icmp .ne 9, 3) := by decide +kernel
theorem dX5_piece_46 : decode cX5_piece 46 = .ok (.aload_n 3, 1) := by decide +kernel
theorem dX5_piece_47 : decode cX5_piece 47 = .ok (.getfield 106, 3) := by decide +kernel
theorem dX5_piece_50 : decode cX5_piece 50 = .ok (.arraylength, 1) := by decide +kernel
theorem dX5_piece_51 : decode cX5_piece 51 = .ok (.ireturn, 1) := by decide +kernel
theorem dX5_piece_52 : decode cX5_piece 52 = .ok (.iload_n 2, 1) := by decide +kernel
theorem dX5_piece_53 : decode cX5_piece 53 = .ok (.iconst 3, 1) := by decide +kernel
theorem dX5_piece_54 : decode cX5_piece 54 = .ok (.if_icmp .ne 8, 3) := by decide +kernel
theorem dX5_piece_57 : decode cX5_piece 57 = .ok (.aload_n 3, 1) := by decide +kernel
theorem dX5_piece_58 : decode cX5_piece 58 = .ok (.getfield 118, 3) := by decide +kernel
theorem dX5_piece_61 : decode cX5_piece 61 = .ok (.ireturn, 1) := by decide +kernel
theorem dX5_piece_62 : decode cX5_piece 62 = .ok (.iload_n 2, 1) := by decide +kernel
theorem dX5_piece_63 : decode cX5_piece 63 = .ok (.iconst 4, 1) := by decide +kernel
theorem dX5_piece_64 : decode cX5_piece 64 = .ok (.isub, 1) := by decide +kernel
theorem dX5_piece_65 : decode cX5_piece 65 = .ok (.aload_n 3, 1) := by decide +kernel
theorem dX5_piece_66 : decode cX5_piece 66 = .ok (.getfield 106, 3) := by decide +kernel
theorem dX5_piece_69 : decode cX5_piece 69 = .ok (.arraylength, 1) := by decide +kernel
theorem dX5_piece_70 : decode cX5_piece 70 = .ok (.if_icmp .ge 17, 3) := by decide +kernel
theorem dX5_piece_73 : decode cX5_piece 73 = .ok (.aload_n 3, 1) := by decide +kernel
theorem dX5_piece_74 : decode cX5_piece 74 = .ok (.getfield 106, 3) := by decide +kernel
theorem dX5_piece_77 : decode cX5_piece 77 = .ok (.iload_n 2, 1) := by decide +kernel
theorem dX5_piece_78 : decode cX5_piece 78 = .ok (.iconst 4, 1) := by decide +kernel
theorem dX5_piece_79 : decode cX5_piece 79 = .ok (.isub, 1) := by decide +kernel
theorem dX5_piece_80 : decode cX5_piece 80 = .ok (.aaload, 1) := by decide +kernel
theorem dX5_piece_81 : decode cX5_piece 81 = .ok (.getfield 121, 3) := by decide +kernel
theorem dX5_piece_84 : decode cX5_piece 84 = .ok (.goto 5, 3) := by decide +kernel
theorem dX5_piece_87 : decode cX5_piece 87 = .ok (.bipush (-3), 2) := by decide +kernel
theorem dX5_piece_89 : decode cX5_piece 89 = .ok (.ireturn, 1) := by decide +kernel
theorem dX5_plain_0 : decode cX5_plain 0 = .ok (.aload_n 0, 1) := by decide +kernel
theorem dX5_plain_1 : decode cX5_plain 1 = .ok (.iload_n 1, 1) := by decide +kernel
theorem dX5_plain_2 : decode cX5_plain 2 = .ok (.invokevirtual 99, 3) := by decide +kernel
theorem dX5_plain_5 : decode cX5_plain 5 = .ok (.astore_n 2, 1) := by decide +kernel
theorem dX5_plain_6 : decode cX5_plain 6 = .ok (.aload_n 2, 1) := by decide +kernel
theorem dX5_plain_7 : decode cX5_plain 7 = .ok (.ifnonnull 5, 3) := by decide +kernel
theorem dX5_plain_10 : decode cX5_plain 10 = .ok (.iconst (-1), 1) := by decide +kernel
theorem dX5_plain_11 : decode cX5_plain 11 = .ok (.ireturn, 1) := by decide +kernel
theorem dX5_plain_12 : decode cX5_plain 12 = .ok (.aload_n 2, 1) := by decide +kernel
theorem dX5_plain_13 : decode cX5_plain 13 = .ok (.iconst 0, 1) := by decide +kernel
theorem dX5_plain_14 : decode cX5_plain 14 = .ok (.invokestatic 124, 3) := by decide +kernel
theorem dX5_plain_17 : decode cX5_plain 17 = .ok (.astore_n 3, 1) := by decide +kernel
theorem dX5_plain_18 : decode cX5_plain 18 = .ok (.aload_n 0, 1) := by decide +kernel
theorem dX5_plain_19 : decode cX5_plain 19 = .ok (.aload_n 3, 1) := by decide +kernel
theorem dX5_plain_20 : decode cX5_plain 20 = .ok (.aload_n 3, 1) := by decide +kernel
theorem dX5_plain_21 : decode cX5_plain 21 = .ok (.getfield 118, 3) := by decide +kernel
theorem dX5_plain_24 : decode cX5_plain 24 = .ok (.invokevirtual 95, 3) := by decide +kernel
theorem dX5_plain_27 : decode cX5_plain 27 = .ok (.ireturn, 1) := by decide +kernel
theorem dX5_like_0 : decode cX5_like 0 = .ok (.aload_n 0, 1) := by decide +kernel
theorem dX5_like_1 : decode cX5_like 1 = .ok (.iload_n 1, 1) := by decide +kernel
theorem dX5_like_2 : decode cX5_like 2 = .ok (.invokevirtual 99, 3) := by decide +kernel
theorem dX5_like_5 : decode cX5_like 5 = .ok (.astore_n 3, 1) := by decide +kernel
theorem dX5_like_6 : decode cX5_like 6 = .ok (.aload_n 0, 1) := by decide +kernel
theorem dX5_like_7 : decode cX5_like 7 = .ok (.iload_n 2, 1) := by decide +kernel
theorem dX5_like_8 : decode cX5_like 8 = .ok (.invokevirtual 99, 3) := by decide +kernel
theorem dX5_like_11 : decode cX5_like 11 = .ok (.astore 4, 2) := by decide +kernel
theorem dX5_like_13 : decode cX5_like 13 = .ok (.aload_n 3, 1) := by decide +kernel
theorem dX5_like_14 : decode cX5_like 14 = .ok (.ifnull 8, 3) := by decide +kernel
theorem dX5_like_17 : decode cX5_like 17 = .ok (.aload 4, 2) := by decide +kernel
theorem dX5_like_19 : decode cX5_like 19 = .ok (.ifnonnull 5, 3) := by decide +kernel
theorem dX5_like_22 : decode cX5_like 22 = .ok (.iconst (-1), 1) := by decide +kernel
theorem dX5_like_23 : decode cX5_like 23 = .ok (.ireturn, 1) := by decide +kernel
theorem dX5_like_24 : decode cX5_like 24 = .ok (.aload_n 3, 1) := by decide +kernel
theorem dX5_like_25 : decode cX5_like 25 = .ok (.aload 4, 2) := by decide +kernel
theorem dX5_like_27 : decode cX5_like 27 = .ok (.iconst 0, 1) := by decide +kernel
theorem dX5_like_28 : decode cX5_like 28 = .ok (.invokestatic 128, 3) := by decide +kernel
theorem dX5_like_31 : decode cX5_like 31 = .ok (.ifCond .ne 7, 3) := by decide +kernel
theorem dX5_like_34 : decode cX5_like 34 = .ok (.iconst 1, 1) := by decide +kernel
theorem dX5_like_35 : decode cX5_like 35 = .ok (.goto 4, 3) := by decide +kernel
theorem dX5_like_38 : decode cX5_like 38 = .ok (.iconst 0, 1) := by decide +kernel
theorem dX5_like_39 : decode cX5_like 39 = .ok (.ireturn, 1) := by decide +kernel
theorem dX5_find_0 : decode cX5_find 0 = .ok (.aload_n 0, 1) := by decide +kernel
theorem dX5_find_1 : decode cX5_find 1 = .ok (.getfield 30, 3) := by decide +kernel
theorem dX5_find_4 : decode cX5_find 4 = .ok (.iconst 0, 1) := by decide +kernel
theorem dX5_find_5 : decode cX5_find 5 = .ok (.aaload, 1) := by decide +kernel
theorem dX5_find_6 : decode cX5_find 6 = .ok (.astore_n 1, 1) := by decide +kernel
theorem dX5_find_7 : decode cX5_find 7 = .ok (.aload_n 1, 1) := by decide +kernel
theorem dX5_find_8 : decode cX5_find 8 = .ok (.iconst 0, 1) := by decide +kernel
theorem dX5_find_9 : decode cX5_find 9 = .ok (.putfield 132, 3) := by decide +kernel
theorem dX5_find_12 : decode cX5_find 12 = .ok (.iconst 0, 1) := by decide +kernel
theorem dX5_find_13 : decode cX5_find 13 = .ok (.istore_n 2, 1) := by decide +kernel
theorem dX5_find_14 : decode cX5_find 14 = .ok (.iload_n 2, 1) := by decide +kernel
theorem dX5_find_15 : decode cX5_find 15 = .ok (.aload_n 0, 1) := by decide +kernel
theorem dX5_find_16 : decode cX5_find 16 = .ok (.getfield 42, 3) := by decide +kernel
theorem dX5_find_19 : decode cX5_find 19 = .ok (.if_icmp .ge 27, 3) := by decide +kernel
theorem dX5_find_22 : decode cX5_find 22 = .ok (.aload_n 0, 1) := by decide +kernel
theorem dX5_find_23 : decode cX5_find 23 = .ok (.iload_n 2, 1) := by decide +kernel
theorem dX5_find_24 : decode cX5_find 24 = .ok (.invokevirtual 47, 3) := by decide +kernel
theorem dX5_find_27 : decode cX5_find 27 = .ok (.astore_n 3, 1) := by decide +kernel
theorem dX5_find_28 : decode cX5_find 28 = .ok (.aload_n 3, 1) := by decide +kernel
theorem dX5_find_29 : decode cX5_find 29 = .ok (.ifnull 11, 3) := by decide +kernel
theorem dX5_find_32 : decode cX5_find 32 = .ok (.aload_n 1, 1) := by decide +kernel
theorem dX5_find_33 : decode cX5_find 33 = .ok (.aload_n 3, 1) := by decide +kernel
theorem dX5_find_34 : decode cX5_find 34 = .ok (.invokevirtual 135, 3) := by decide +kernel
theorem dX5_find_37 : decode cX5_find 37 = .ok (.invokevirtual 139, 3) := by decide +kernel
theorem dX5_find_40 : decode cX5_find 40 = .ok (.iinc 2 1, 3) := by decide +kernel
theorem dX5_find_43 : decode cX5_find 43 = .ok (.goto (-29), 3) := by decide +kernel
theorem dX5_find_46 : decode cX5_find 46 = .ok (.aload_n 0, 1) := by decide +kernel
theorem dX5_find_47 : decode cX5_find 47 = .ok (.getfield 30, 3) := by decide +kernel
theorem dX5_find_50 : decode cX5_find 50 = .ok (.iconst 0, 1) := by decide +kernel
theorem dX5_find_51 : decode cX5_find 51 = .ok (.invokestatic 142, 3) := by decide +kernel
theorem dX5_find_54 : decode cX5_find 54 = .ok (.astore_n 2, 1) := by decide +kernel
theorem dX5_find_55 : decode cX5_find 55 = .ok (.aload_n 0, 1) := by decide +kernel
theorem dX5_find_56 : decode cX5_find 56 = .ok (.aload_n 2, 1) := by decide +kernel
theorem dX5_find_57 : decode cX5_find 57 = .ok (.aload_n 2, 1) := by decide +kernel
theorem dX5_find_58 : decode cX5_find 58 = .ok (.getfield 118, 3) := by decide +kernel
theorem dX5_find_61 : decode cX5_find 61 = .ok (.invokevirtual 95, 3) := by decide +kernel
theorem dX5_find_64 : decode cX5_find 64 = .ok (.ireturn, 1) := by decide +kernel
theorem dX5_price_0 : decode cX5_price 0 = .ok (.aload_n 0, 1) := by decide +kernel
theorem dX5_price_1 : decode cX5_price 1 = .ok (.iload_n 1, 1) := by decide +kernel
theorem dX5_price_2 : decode cX5_price 2 = .ok (.invokevirtual 47, 3) := by decide +kernel
theorem dX5_price_5 : decode cX5_price 5 = .ok (.astore_n 3, 1) := by decide +kernel
theorem dX5_price_6 : decode cX5_price 6 = .ok (.aload_n 0, 1) := by decide +kernel
theorem dX5_price_7 : decode cX5_price 7 = .ok (.iload_n 2, 1) := by decide +kernel
theorem dX5_price_8 : decode cX5_price 8 = .ok (.invokevirtual 99, 3) := by decide +kernel
theorem dX5_price_11 : decode cX5_price 11 = .ok (.astore 4, 2) := by decide +kernel
theorem dX5_price_13 : decode cX5_price 13 = .ok (.aload_n 3, 1) := by decide +kernel
theorem dX5_price_14 : decode cX5_price 14 = .ok (.ifnull 8, 3) := by decide +kernel
theorem dX5_price_17 : decode cX5_price 17 = .ok (.aload 4, 2) := by decide +kernel
theorem dX5_price_19 : decode cX5_price 19 = .ok (.ifnonnull 5, 3) := by decide +kernel
theorem dX5_price_22 : decode cX5_price 22 = .ok (.iconst (-1), 1) := by decide +kernel
theorem dX5_price_23 : decode cX5_price 23 = .ok (.ireturn, 1) := by decide +kernel
theorem dX5_price_24 : decode cX5_price 24 = .ok (.aload_n 0, 1) := by decide +kernel
theorem dX5_price_25 : decode cX5_price 25 = .ok (.getfield 24, 3) := by decide +kernel
theorem dX5_price_28 : decode cX5_price 28 = .ok (.aload_n 3, 1) := by decide +kernel
theorem dX5_price_29 : decode cX5_price 29 = .ok (.aload 4, 2) := by decide +kernel
theorem dX5_price_31 : decode cX5_price 31 = .ok (.invokevirtual 146, 3) := by decide +kernel
theorem dX5_price_34 : decode cX5_price 34 = .ok (.aload_n 0, 1) := by decide +kernel
theorem dX5_price_35 : decode cX5_price 35 = .ok (.getfield 24, 3) := by decide +kernel
theorem dX5_price_38 : decode cX5_price 38 = .ok (.getfield 150, 3) := by decide +kernel
theorem dX5_price_41 : decode cX5_price 41 = .ok (.ireturn, 1) := by decide +kernel
theorem dX5_both_0 : decode cX5_both 0 = .ok (.aload_n 0, 1) := by decide +kernel
theorem dX5_both_1 : decode cX5_both 1 = .ok (.iload_n 1, 1) := by decide +kernel
theorem dX5_both_2 : decode cX5_both 2 = .ok (.invokevirtual 47, 3) := by decide +kernel
theorem dX5_both_5 : decode cX5_both 5 = .ok (.astore_n 3, 1) := by decide +kernel
theorem dX5_both_6 : decode cX5_both 6 = .ok (.aload_n 0, 1) := by decide +kernel
theorem dX5_both_7 : decode cX5_both 7 = .ok (.iload_n 2, 1) := by decide +kernel
theorem dX5_both_8 : decode cX5_both 8 = .ok (.invokevirtual 99, 3) := by decide +kernel
theorem dX5_both_11 : decode cX5_both 11 = .ok (.astore 4, 2) := by decide +kernel
theorem dX5_both_13 : decode cX5_both 13 = .ok (.aload_n 3, 1) := by decide +kernel
theorem dX5_both_14 : decode cX5_both 14 = .ok (.ifnull 8, 3) := by decide +kernel
theorem dX5_both_17 : decode cX5_both 17 = .ok (.aload 4, 2) := by decide +kernel
theorem dX5_both_19 : decode cX5_both 19 = .ok (.ifnonnull 5, 3) := by decide +kernel
theorem dX5_both_22 : decode cX5_both 22 = .ok (.iconst (-1), 1) := by decide +kernel
theorem dX5_both_23 : decode cX5_both 23 = .ok (.ireturn, 1) := by decide +kernel
theorem dX5_both_24 : decode cX5_both 24 = .ok (.aload_n 0, 1) := by decide +kernel
theorem dX5_both_25 : decode cX5_both 25 = .ok (.getfield 24, 3) := by decide +kernel
theorem dX5_both_28 : decode cX5_both 28 = .ok (.aload_n 3, 1) := by decide +kernel
theorem dX5_both_29 : decode cX5_both 29 = .ok (.aload 4, 2) := by decide +kernel
theorem dX5_both_31 : decode cX5_both 31 = .ok (.invokevirtual 146, 3) := by decide +kernel
theorem dX5_both_34 : decode cX5_both 34 = .ok (.aload_n 0, 1) := by decide +kernel
theorem dX5_both_35 : decode cX5_both 35 = .ok (.getfield 24, 3) := by decide +kernel
theorem dX5_both_38 : decode cX5_both 38 = .ok (.getfield 153, 3) := by decide +kernel
theorem dX5_both_41 : decode cX5_both 41 = .ok (.ireturn, 1) := by decide +kernel
theorem dX5_shortest_0 : decode cX5_shortest 0 = .ok (.aload_n 0, 1) := by decide +kernel
theorem dX5_shortest_1 : decode cX5_shortest 1 = .ok (.iload_n 1, 1) := by decide +kernel
theorem dX5_shortest_2 : decode cX5_shortest 2 = .ok (.invokevirtual 99, 3) := by decide +kernel
theorem dX5_shortest_5 : decode cX5_shortest 5 = .ok (.astore_n 2, 1) := by decide +kernel
theorem dX5_shortest_6 : decode cX5_shortest 6 = .ok (.aload_n 2, 1) := by decide +kernel
theorem dX5_shortest_7 : decode cX5_shortest 7 = .ok (.ifnonnull 7, 3) := by decide +kernel
theorem dX5_shortest_10 : decode cX5_shortest 10 = .ok (.iconst (-1), 1) := by decide +kernel
theorem dX5_shortest_11 : decode cX5_shortest 11 = .ok (.goto 7, 3) := by decide +kernel
theorem dX5_shortest_14 : decode cX5_shortest 14 = .ok (.aload_n 2, 1) := by decide +kernel
theorem dX5_shortest_15 : decode cX5_shortest 15 = .ok (.getfield 154, 3) := by decide +kernel
theorem dX5_shortest_18 : decode cX5_shortest 18 = .ok (.ireturn, 1) := by decide +kernel
theorem dX5_fit_0 : decode cX5_fit 0 = .ok (.aload_n 0, 1) := by decide +kernel
theorem dX5_fit_1 : decode cX5_fit 1 = .ok (.iload_n 1, 1) := by decide +kernel
theorem dX5_fit_2 : decode cX5_fit 2 = .ok (.invokevirtual 99, 3) := by decide +kernel
theorem dX5_fit_5 : decode cX5_fit 5 = .ok (.astore_n 3, 1) := by decide +kernel
theorem dX5_fit_6 : decode cX5_fit 6 = .ok (.aload_n 3, 1) := by decide +kernel
theorem dX5_fit_7 : decode cX5_fit 7 = .ok (.ifnull 12, 3) := by decide +kernel
theorem dX5_fit_10 : decode cX5_fit 10 = .ok (.iload_n 2, 1) := by decide +kernel
theorem dX5_fit_11 : decode cX5_fit 11 = .ok (.ifCond .lt 8, 3) := by decide +kernel
theorem dX5_fit_14 : decode cX5_fit 14 = .ok (.iload_n 2, 1) := by decide +kernel
theorem dX5_fit_15 : decode cX5_fit 15 = .ok (.iconst 3, 1) := by decide +kernel
theorem dX5_fit_16 : decode cX5_fit 16 = .ok (.if_icmp .le 5, 3) := by decide +kernel
theorem dX5_fit_19 : decode cX5_fit 19 = .ok (.iconst (-1), 1) := by decide +kernel
theorem dX5_fit_20 : decode cX5_fit 20 = .ok (.ireturn, 1) := by decide +kernel
theorem dX5_fit_21 : decode cX5_fit 21 = .ok (.iload_n 2, 1) := by decide +kernel
theorem dX5_fit_22 : decode cX5_fit 22 = .ok (.iconst 2, 1) := by decide +kernel
theorem dX5_fit_23 : decode cX5_fit 23 = .ok (.if_icmp .ne 18, 3) := by decide +kernel
theorem dX5_fit_26 : decode cX5_fit 26 = .ok (.aload_n 0, 1) := by decide +kernel
theorem dX5_fit_27 : decode cX5_fit 27 = .ok (.invokevirtual 157, 3) := by decide +kernel
theorem dX5_fit_30 : decode cX5_fit 30 = .ok (.aload_n 0, 1) := by decide +kernel
theorem dX5_fit_31 : decode cX5_fit 31 = .ok (.invokevirtual 160, 3) := by decide +kernel
theorem dX5_fit_34 : decode cX5_fit 34 = .ok (.aload_n 3, 1) := by decide +kernel
theorem dX5_fit_35 : decode cX5_fit 35 = .ok (.getfield 154, 3) := by decide +kernel
theorem dX5_fit_38 : decode cX5_fit 38 = .ok (.imul, 1) := by decide +kernel
theorem dX5_fit_39 : decode cX5_fit 39 = .ok (.iadd, 1) := by decide +kernel
theorem dX5_fit_40 : decode cX5_fit 40 = .ok (.ireturn, 1) := by decide +kernel
theorem dX5_fit_41 : decode cX5_fit 41 = .ok (.iconst 0, 1) := by decide +kernel
theorem dX5_fit_42 : decode cX5_fit 42 = .ok (.istore 4, 2) := by decide +kernel
theorem dX5_fit_44 : decode cX5_fit 44 = .ok (.iconst 0, 1) := by decide +kernel
theorem dX5_fit_45 : decode cX5_fit 45 = .ok (.istore 5, 2) := by decide +kernel
theorem dX5_fit_47 : decode cX5_fit 47 = .ok (.bipush (-3), 2) := by decide +kernel
theorem dX5_fit_49 : decode cX5_fit 49 = .ok (.istore 6, 2) := by decide +kernel
theorem dX5_fit_51 : decode cX5_fit 51 = .ok (.iconst (-1), 1) := by decide +kernel
theorem dX5_fit_52 : decode cX5_fit 52 = .ok (.istore 7, 2) := by decide +kernel
theorem dX5_fit_54 : decode cX5_fit 54 = .ok (.iconst 0, 1) := by decide +kernel
theorem dX5_fit_55 : decode cX5_fit 55 = .ok (.istore 8, 2) := by decide +kernel
theorem dX5_fit_57 : decode cX5_fit 57 = .ok (.iload 8, 2) := by decide +kernel
theorem dX5_fit_59 : decode cX5_fit 59 = .ok (.aload_n 0, 1) := by decide +kernel
theorem dX5_fit_60 : decode cX5_fit 60 = .ok (.getfield 42, 3) := by decide +kernel
theorem dX5_fit_63 : decode cX5_fit 63 = .ok (.if_icmp .ge 85, 3) := by decide +kernel
theorem dX5_fit_66 : decode cX5_fit 66 = .ok (.aload_n 0, 1) := by decide +kernel
theorem dX5_fit_67 : decode cX5_fit 67 = .ok (.iload 8, 2) := by decide +kernel
theorem dX5_fit_69 : decode cX5_fit 69 = .ok (.invokevirtual 47, 3) := by decide +kernel
theorem dX5_fit_72 : decode cX5_fit 72 = .ok (.astore 9, 2) := by decide +kernel
theorem dX5_fit_74 : decode cX5_fit 74 = .ok (.aload 9, 2) := by decide +kernel
theorem dX5_fit_76 : decode cX5_fit 76 = .ok (.ifnonnull 6, 3) := by decide +kernel
theorem dX5_fit_79 : decode cX5_fit 79 = .ok (.goto 63, 3) := by decide +kernel
theorem dX5_fit_82 : decode cX5_fit 82 = .ok (.aload_n 0, 1) := by decide +kernel
theorem dX5_fit_83 : decode cX5_fit 83 = .ok (.getfield 24, 3) := by decide +kernel
theorem dX5_fit_86 : decode cX5_fit 86 = .ok (.aload 9, 2) := by decide +kernel
theorem dX5_fit_88 : decode cX5_fit 88 = .ok (.aload_n 3, 1) := by decide +kernel
theorem dX5_fit_89 : decode cX5_fit 89 = .ok (.invokevirtual 146, 3) := by decide +kernel
theorem dX5_fit_92 : decode cX5_fit 92 = .ok (.iload 5, 2) := by decide +kernel
theorem dX5_fit_94 : decode cX5_fit 94 = .ok (.aload_n 0, 1) := by decide +kernel
theorem dX5_fit_95 : decode cX5_fit 95 = .ok (.getfield 24, 3) := by decide +kernel
theorem dX5_fit_98 : decode cX5_fit 98 = .ok (.getfield 150, 3) := by decide +kernel
theorem dX5_fit_101 : decode cX5_fit 101 = .ok (.iadd, 1) := by decide +kernel
theorem dX5_fit_102 : decode cX5_fit 102 = .ok (.istore 5, 2) := by decide +kernel
theorem dX5_fit_104 : decode cX5_fit 104 = .ok (.aload_n 0, 1) := by decide +kernel
theorem dX5_fit_105 : decode cX5_fit 105 = .ok (.getfield 24, 3) := by decide +kernel
theorem dX5_fit_108 : decode cX5_fit 108 = .ok (.getfield 150, 3) := by decide +kernel
theorem dX5_fit_111 : decode cX5_fit 111 = .ok (.ifCond .ne 6, 3) := by decide +kernel
theorem dX5_fit_114 : decode cX5_fit 114 = .ok (.iinc 4 1, 3) := by decide +kernel
theorem dX5_fit_117 : decode cX5_fit 117 = .ok (.aload_n 0, 1) := by decide +kernel
theorem dX5_fit_118 : decode cX5_fit 118 = .ok (.getfield 24, 3) := by decide +kernel
theorem dX5_fit_121 : decode cX5_fit 121 = .ok (.getfield 150, 3) := by decide +kernel
theorem dX5_fit_124 : decode cX5_fit 124 = .ok (.iload 7, 2) := by decide +kernel
theorem dX5_fit_126 : decode cX5_fit 126 = .ok (.if_icmp .le 16, 3) := by decide +kernel
theorem dX5_fit_129 : decode cX5_fit 129 = .ok (.aload_n 0, 1) := by decide +kernel
theorem dX5_fit_130 : decode cX5_fit 130 = .ok (.getfield 24, 3) := by decide +kernel
theorem dX5_fit_133 : decode cX5_fit 133 = .ok (.getfield 150, 3) := by decide +kernel
theorem dX5_fit_136 : decode cX5_fit 136 = .ok (.istore 7, 2) := by decide +kernel
theorem dX5_fit_138 : decode cX5_fit 138 = .ok (.iload 8, 2) := by decide +kernel
theorem dX5_fit_140 : decode cX5_fit 140 = .ok (.istore 6, 2) := by decide +kernel
theorem dX5_fit_142 : decode cX5_fit 142 = .ok (.iinc 8 1, 3) := by decide +kernel
theorem dX5_fit_145 : decode cX5_fit 145 = .ok (.goto (-88), 3) := by decide +kernel
theorem dX5_fit_148 : decode cX5_fit 148 = .ok (.iload_n 2, 1) := by decide +kernel
theorem dX5_fit_149 : decode cX5_fit 149 = .ok (.ifCond .ne 8, 3) := by decide +kernel
theorem dX5_fit_152 : decode cX5_fit 152 = .ok (.iload 4, 2) := by decide +kernel
theorem dX5_fit_154 : decode cX5_fit 154 = .ok (.goto 15, 3) := by decide +kernel
theorem dX5_fit_157 : decode cX5_fit 157 = .ok (.iload_n 2, 1) := by decide +kernel
theorem dX5_fit_158 : decode cX5_fit 158 = .ok (.iconst 1, 1) := by decide +kernel
theorem dX5_fit_159 : decode cX5_fit 159 = .ok (.if_icmp .ne 8, 3) := by decide +kernel
theorem dX5_fit_162 : decode cX5_fit 162 = .ok (.iload 5, 2) := by decide +kernel
theorem dX5_fit_164 : decode cX5_fit 164 = .ok (.goto 5, 3) := by decide +kernel
theorem dX5_fit_167 : decode cX5_fit 167 = .ok (.iload 6, 2) := by decide +kernel
theorem dX5_fit_169 : decode cX5_fit 169 = .ok (.ireturn, 1) := by decide +kernel
theorem dX5_work_0 : decode cX5_work 0 = .ok (.iload_n 1, 1) := by decide +kernel
theorem dX5_work_1 : decode cX5_work 1 = .ok (.invokestatic 51, 3) := by decide +kernel
theorem dX5_work_4 : decode cX5_work 4 = .ok (.ifCond .eq 12, 3) := by decide +kernel
theorem dX5_work_7 : decode cX5_work 7 = .ok (.iload_n 2, 1) := by decide +kernel
theorem dX5_work_8 : decode cX5_work 8 = .ok (.ifCond .lt 8, 3) := by decide +kernel
theorem dX5_work_11 : decode cX5_work 11 = .ok (.iload_n 2, 1) := by decide +kernel
theorem dX5_work_12 : decode cX5_work 12 = .ok (.iconst 3, 1) := by decide +kernel
theorem dX5_work_13 : decode cX5_work 13 = .ok (.if_icmp .le 5, 3) := by decide +kernel
theorem dX5_work_16 : decode cX5_work 16 = .ok (.iconst (-1), 1) := by decide +kernel
theorem dX5_work_17 : decode cX5_work 17 = .ok (.ireturn, 1) := by decide +kernel
theorem dX5_work_18 : decode cX5_work 18 = .ok (.new 163, 3) := by decide +kernel
theorem dX5_work_21 : decode cX5_work 21 = .ok (.dup, 1) := by decide +kernel
theorem dX5_work_22 : decode cX5_work 22 = .ok (.invokespecial 165, 3) := by decide +kernel
theorem dX5_work_25 : decode cX5_work 25 = .ok (.astore_n 3, 1) := by decide +kernel
theorem dX5_work_26 : decode cX5_work 26 = .ok (.iconst 0, 1) := by decide +kernel
theorem dX5_work_27 : decode cX5_work 27 = .ok (.istore 4, 2) := by decide +kernel
theorem dX5_work_29 : decode cX5_work 29 = .ok (.iload 4, 2) := by decide +kernel
theorem dX5_work_31 : decode cX5_work 31 = .ok (.aload_n 0, 1) := by decide +kernel
theorem dX5_work_32 : decode cX5_work 32 = .ok (.getfield 42, 3) := by decide +kernel
theorem dX5_work_35 : decode cX5_work 35 = .ok (.if_icmp .ge 76, 3) := by decide +kernel
theorem dX5_work_38 : decode cX5_work 38 = .ok (.aload_n 0, 1) := by decide +kernel
theorem dX5_work_39 : decode cX5_work 39 = .ok (.iload 4, 2) := by decide +kernel
theorem dX5_work_41 : decode cX5_work 41 = .ok (.invokevirtual 47, 3) := by decide +kernel
theorem dX5_work_44 : decode cX5_work 44 = .ok (.astore 5, 2) := by decide +kernel
theorem dX5_work_46 : decode cX5_work 46 = .ok (.aload 5, 2) := by decide +kernel
theorem dX5_work_48 : decode cX5_work 48 = .ok (.ifnonnull 6, 3) := by decide +kernel
theorem dX5_work_51 : decode cX5_work 51 = .ok (.goto 54, 3) := by decide +kernel
theorem dX5_work_54 : decode cX5_work 54 = .ok (.iconst 0, 1) := by decide +kernel
theorem dX5_work_55 : decode cX5_work 55 = .ok (.istore 6, 2) := by decide +kernel
theorem dX5_work_57 : decode cX5_work 57 = .ok (.iload 6, 2) := by decide +kernel
theorem dX5_work_59 : decode cX5_work 59 = .ok (.aload 5, 2) := by decide +kernel
theorem dX5_work_61 : decode cX5_work 61 = .ok (.getfield 61, 3) := by decide +kernel
theorem dX5_work_64 : decode cX5_work 64 = .ok (.if_icmp .ge 41, 3) := by decide +kernel
theorem dX5_work_67 : decode cX5_work 67 = .ok (.aload 5, 2) := by decide +kernel
theorem dX5_work_69 : decode cX5_work 69 = .ok (.iload 6, 2) := by decide +kernel
theorem dX5_work_71 : decode cX5_work 71 = .ok (.iconst 0, 1) := by decide +kernel
theorem dX5_work_72 : decode cX5_work 72 = .ok (.invokevirtual 75, 3) := by decide +kernel
theorem dX5_work_75 : decode cX5_work 75 = .ok (.iload_n 1, 1) := by decide +kernel
theorem dX5_work_76 : decode cX5_work 76 = .ok (.if_icmp .ne 23, 3) := by decide +kernel
theorem dX5_work_79 : decode cX5_work 79 = .ok (.aload_n 3, 1) := by decide +kernel
theorem dX5_work_80 : decode cX5_work 80 = .ok (.aload 5, 2) := by decide +kernel
theorem dX5_work_82 : decode cX5_work 82 = .ok (.iload 6, 2) := by decide +kernel
theorem dX5_work_84 : decode cX5_work 84 = .ok (.iconst 2, 1) := by decide +kernel
theorem dX5_work_85 : decode cX5_work 85 = .ok (.invokevirtual 75, 3) := by decide +kernel
theorem dX5_work_88 : decode cX5_work 88 = .ok (.aload 5, 2) := by decide +kernel
theorem dX5_work_90 : decode cX5_work 90 = .ok (.iload 6, 2) := by decide +kernel
theorem dX5_work_92 : decode cX5_work 92 = .ok (.iconst 3, 1) := by decide +kernel
theorem dX5_work_93 : decode cX5_work 93 = .ok (.invokevirtual 75, 3) := by decide +kernel
theorem dX5_work_96 : decode cX5_work 96 = .ok (.invokevirtual 166, 3) := by decide +kernel
theorem dX5_work_99 : decode cX5_work 99 = .ok (.iinc 6 1, 3) := by decide +kernel
theorem dX5_work_102 : decode cX5_work 102 = .ok (.goto (-45), 3) := by decide +kernel
theorem dX5_work_105 : decode cX5_work 105 = .ok (.iinc 4 1, 3) := by decide +kernel
theorem dX5_work_108 : decode cX5_work 108 = .ok (.goto (-79), 3) := by decide +kernel
theorem dX5_work_111 : decode cX5_work 111 = .ok (.aload_n 3, 1) := by decide +kernel
theorem dX5_work_112 : decode cX5_work 112 = .ok (.iload_n 2, 1) := by decide +kernel
theorem dX5_work_113 : decode cX5_work 113 = .ok (.invokevirtual 170, 3) := by decide +kernel
theorem dX5_work_116 : decode cX5_work 116 = .ok (.ireturn, 1) := by decide +kernel
theorem dX5_lag_0 : decode cX5_lag 0 = .ok (.iload_n 1, 1) := by decide +kernel
theorem dX5_lag_1 : decode cX5_lag 1 = .ok (.invokestatic 51, 3) := by decide +kernel
theorem dX5_lag_4 : decode cX5_lag 4 = .ok (.ifCond .eq 19, 3) := by decide +kernel
theorem dX5_lag_7 : decode cX5_lag 7 = .ok (.iload_n 2, 1) := by decide +kernel
theorem dX5_lag_8 : decode cX5_lag 8 = .ok (.invokestatic 51, 3) := by decide +kernel
theorem dX5_lag_11 : decode cX5_lag 11 = .ok (.ifCond .eq 12, 3) := by decide +kernel
theorem dX5_lag_14 : decode cX5_lag 14 = .ok (.iload_n 3, 1) := by decide +kernel
theorem dX5_lag_15 : decode cX5_lag 15 = .ok (.ifCond .lt 8, 3) := by decide +kernel
theorem dX5_lag_18 : decode cX5_lag 18 = .ok (.iload_n 3, 1) := by decide +kernel
theorem dX5_lag_19 : decode cX5_lag 19 = .ok (.iconst 3, 1) := by decide +kernel
theorem dX5_lag_20 : decode cX5_lag 20 = .ok (.if_icmp .le 5, 3) := by decide +kernel
theorem dX5_lag_23 : decode cX5_lag 23 = .ok (.iconst (-1), 1) := by decide +kernel
theorem dX5_lag_24 : decode cX5_lag 24 = .ok (.ireturn, 1) := by decide +kernel
theorem dX5_lag_25 : decode cX5_lag 25 = .ok (.new 163, 3) := by decide +kernel
theorem dX5_lag_28 : decode cX5_lag 28 = .ok (.dup, 1) := by decide +kernel
theorem dX5_lag_29 : decode cX5_lag 29 = .ok (.invokespecial 165, 3) := by decide +kernel
theorem dX5_lag_32 : decode cX5_lag 32 = .ok (.astore 4, 2) := by decide +kernel
theorem dX5_lag_34 : decode cX5_lag 34 = .ok (.iconst 0, 1) := by decide +kernel
theorem dX5_lag_35 : decode cX5_lag 35 = .ok (.istore 5, 2) := by decide +kernel
theorem dX5_lag_37 : decode cX5_lag 37 = .ok (.iload 5, 2) := by decide +kernel
theorem dX5_lag_39 : decode cX5_lag 39 = .ok (.aload_n 0, 1) := by decide +kernel
theorem dX5_lag_40 : decode cX5_lag 40 = .ok (.getfield 42, 3) := by decide +kernel
theorem dX5_lag_43 : decode cX5_lag 43 = .ok (.if_icmp .ge 93, 3) := by decide +kernel
theorem dX5_lag_46 : decode cX5_lag 46 = .ok (.aload_n 0, 1) := by decide +kernel
theorem dX5_lag_47 : decode cX5_lag 47 = .ok (.iload 5, 2) := by decide +kernel
theorem dX5_lag_49 : decode cX5_lag 49 = .ok (.invokevirtual 47, 3) := by decide +kernel
theorem dX5_lag_52 : decode cX5_lag 52 = .ok (.astore 6, 2) := by decide +kernel
theorem dX5_lag_54 : decode cX5_lag 54 = .ok (.aload 6, 2) := by decide +kernel
theorem dX5_lag_56 : decode cX5_lag 56 = .ok (.ifnonnull 6, 3) := by decide +kernel
theorem dX5_lag_59 : decode cX5_lag 59 = .ok (.goto 71, 3) := by decide +kernel
theorem dX5_lag_62 : decode cX5_lag 62 = .ok (.iconst 1, 1) := by decide +kernel
theorem dX5_lag_63 : decode cX5_lag 63 = .ok (.istore 7, 2) := by decide +kernel
theorem dX5_lag_65 : decode cX5_lag 65 = .ok (.iload 7, 2) := by decide +kernel
theorem dX5_lag_67 : decode cX5_lag 67 = .ok (.aload 6, 2) := by decide +kernel
theorem dX5_lag_69 : decode cX5_lag 69 = .ok (.getfield 61, 3) := by decide +kernel
theorem dX5_lag_72 : decode cX5_lag 72 = .ok (.if_icmp .ge 58, 3) := by decide +kernel
theorem dX5_lag_75 : decode cX5_lag 75 = .ok (.aload 6, 2) := by decide +kernel
theorem dX5_lag_77 : decode cX5_lag 77 = .ok (.iload 7, 2) := by decide +kernel
theorem dX5_lag_79 : decode cX5_lag 79 = .ok (.iconst 1, 1) := by decide +kernel
theorem dX5_lag_80 : decode cX5_lag 80 = .ok (.isub, 1) := by decide +kernel
theorem dX5_lag_81 : decode cX5_lag 81 = .ok (.iconst 0, 1) := by decide +kernel
theorem dX5_lag_82 : decode cX5_lag 82 = .ok (.invokevirtual 75, 3) := by decide +kernel
theorem dX5_lag_85 : decode cX5_lag 85 = .ok (.iload_n 2, 1) := by decide +kernel
theorem dX5_lag_86 : decode cX5_lag 86 = .ok (.if_icmp .ne 38, 3) := by decide +kernel
theorem dX5_lag_89 : decode cX5_lag 89 = .ok (.aload 6, 2) := by decide +kernel
theorem dX5_lag_91 : decode cX5_lag 91 = .ok (.iload 7, 2) := by decide +kernel
theorem dX5_lag_93 : decode cX5_lag 93 = .ok (.iconst 0, 1) := by decide +kernel
theorem dX5_lag_94 : decode cX5_lag 94 = .ok (.invokevirtual 75, 3) := by decide +kernel
theorem dX5_lag_97 : decode cX5_lag 97 = .ok (.iload_n 1, 1) := by decide +kernel
theorem dX5_lag_98 : decode cX5_lag 98 = .ok (.if_icmp .ne 26, 3) := by decide +kernel
theorem dX5_lag_101 : decode cX5_lag 101 = .ok (.aload 4, 2) := by decide +kernel
theorem dX5_lag_103 : decode cX5_lag 103 = .ok (.aload 6, 2) := by decide +kernel
theorem dX5_lag_105 : decode cX5_lag 105 = .ok (.iload 7, 2) := by decide +kernel
theorem dX5_lag_107 : decode cX5_lag 107 = .ok (.iconst 1, 1) := by decide +kernel
theorem dX5_lag_108 : decode cX5_lag 108 = .ok (.isub, 1) := by decide +kernel
theorem dX5_lag_109 : decode cX5_lag 109 = .ok (.iconst 3, 1) := by decide +kernel
theorem dX5_lag_110 : decode cX5_lag 110 = .ok (.invokevirtual 75, 3) := by decide +kernel
theorem dX5_lag_113 : decode cX5_lag 113 = .ok (.aload 6, 2) := by decide +kernel
theorem dX5_lag_115 : decode cX5_lag 115 = .ok (.iload 7, 2) := by decide +kernel
theorem dX5_lag_117 : decode cX5_lag 117 = .ok (.iconst 2, 1) := by decide +kernel
theorem dX5_lag_118 : decode cX5_lag 118 = .ok (.invokevirtual 75, 3) := by decide +kernel
theorem dX5_lag_121 : decode cX5_lag 121 = .ok (.invokevirtual 166, 3) := by decide +kernel
theorem dX5_lag_124 : decode cX5_lag 124 = .ok (.iinc 7 1, 3) := by decide +kernel
theorem dX5_lag_127 : decode cX5_lag 127 = .ok (.goto (-62), 3) := by decide +kernel
theorem dX5_lag_130 : decode cX5_lag 130 = .ok (.iinc 5 1, 3) := by decide +kernel
theorem dX5_lag_133 : decode cX5_lag 133 = .ok (.goto (-96), 3) := by decide +kernel
theorem dX5_lag_136 : decode cX5_lag 136 = .ok (.aload 4, 2) := by decide +kernel
theorem dX5_lag_138 : decode cX5_lag 138 = .ok (.iload_n 3, 1) := by decide +kernel
theorem dX5_lag_139 : decode cX5_lag 139 = .ok (.invokevirtual 170, 3) := by decide +kernel
theorem dX5_lag_142 : decode cX5_lag 142 = .ok (.ireturn, 1) := by decide +kernel
theorem dX5_slow_0 : decode cX5_slow 0 = .ok (.iload_n 1, 1) := by decide +kernel
theorem dX5_slow_1 : decode cX5_slow 1 = .ok (.ifCond .ge 5, 3) := by decide +kernel
theorem dX5_slow_4 : decode cX5_slow 4 = .ok (.iconst (-1), 1) := by decide +kernel
theorem dX5_slow_5 : decode cX5_slow 5 = .ok (.ireturn, 1) := by decide +kernel
theorem dX5_slow_6 : decode cX5_slow 6 = .ok (.aload_n 0, 1) := by decide +kernel
theorem dX5_slow_7 : decode cX5_slow 7 = .ok (.invokevirtual 172, 3) := by decide +kernel
theorem dX5_slow_10 : decode cX5_slow 10 = .ok (.iconst 0, 1) := by decide +kernel
theorem dX5_slow_11 : decode cX5_slow 11 = .ok (.istore_n 2, 1) := by decide +kernel
theorem dX5_slow_12 : decode cX5_slow 12 = .ok (.iload_n 2, 1) := by decide +kernel
theorem dX5_slow_13 : decode cX5_slow 13 = .ok (.aload_n 0, 1) := by decide +kernel
theorem dX5_slow_14 : decode cX5_slow 14 = .ok (.getfield 34, 3) := by decide +kernel
theorem dX5_slow_17 : decode cX5_slow 17 = .ok (.arraylength, 1) := by decide +kernel
theorem dX5_slow_18 : decode cX5_slow 18 = .ok (.if_icmp .ge 29, 3) := by decide +kernel
theorem dX5_slow_21 : decode cX5_slow 21 = .ok (.aload_n 0, 1) := by decide +kernel
theorem dX5_slow_22 : decode cX5_slow 22 = .ok (.getfield 38, 3) := by decide +kernel
theorem dX5_slow_25 : decode cX5_slow 25 = .ok (.iload_n 2, 1) := by decide +kernel
theorem dX5_slow_26 : decode cX5_slow 26 = .ok (.iaload, 1) := by decide +kernel
theorem dX5_slow_27 : decode cX5_slow 27 = .ok (.ifCond .le 14, 3) := by decide +kernel
theorem dX5_slow_30 : decode cX5_slow 30 = .ok (.aload_n 0, 1) := by decide +kernel
theorem dX5_slow_31 : decode cX5_slow 31 = .ok (.iload_n 2, 1) := by decide +kernel
theorem dX5_slow_32 : decode cX5_slow 32 = .ok (.invokevirtual 175, 3) := by decide +kernel
theorem dX5_slow_35 : decode cX5_slow 35 = .ok (.iload_n 1, 1) := by decide +kernel
theorem dX5_slow_36 : decode cX5_slow 36 = .ok (.if_icmp .ne 5, 3) := by decide +kernel
theorem dX5_slow_39 : decode cX5_slow 39 = .ok (.iload_n 2, 1) := by decide +kernel
theorem dX5_slow_40 : decode cX5_slow 40 = .ok (.ireturn, 1) := by decide +kernel
theorem dX5_slow_41 : decode cX5_slow 41 = .ok (.iinc 2 1, 3) := by decide +kernel
theorem dX5_slow_44 : decode cX5_slow 44 = .ok (.goto (-32), 3) := by decide +kernel
theorem dX5_slow_47 : decode cX5_slow 47 = .ok (.bipush (-3), 2) := by decide +kernel
theorem dX5_slow_49 : decode cX5_slow 49 = .ok (.ireturn, 1) := by decide +kernel
theorem dX5_passes_0 : decode cX5_passes 0 = .ok (.iload_n 1, 1) := by decide +kernel
theorem dX5_passes_1 : decode cX5_passes 1 = .ok (.invokestatic 55, 3) := by decide +kernel
theorem dX5_passes_4 : decode cX5_passes 4 = .ok (.ifCond .eq 10, 3) := by decide +kernel
theorem dX5_passes_7 : decode cX5_passes 7 = .ok (.iload_n 2, 1) := by decide +kernel
theorem dX5_passes_8 : decode cX5_passes 8 = .ok (.invokestatic 55, 3) := by decide +kernel
theorem dX5_passes_11 : decode cX5_passes 11 = .ok (.ifCond .ne 5, 3) := by decide +kernel
theorem dX5_passes_14 : decode cX5_passes 14 = .ok (.iconst (-1), 1) := by decide +kernel
theorem dX5_passes_15 : decode cX5_passes 15 = .ok (.ireturn, 1) := by decide +kernel
theorem dX5_passes_16 : decode cX5_passes 16 = .ok (.aload_n 0, 1) := by decide +kernel
theorem dX5_passes_17 : decode cX5_passes 17 = .ok (.iconst 1, 1) := by decide +kernel
theorem dX5_passes_18 : decode cX5_passes 18 = .ok (.iload_n 1, 1) := by decide +kernel
theorem dX5_passes_19 : decode cX5_passes 19 = .ok (.iload_n 2, 1) := by decide +kernel
theorem dX5_passes_20 : decode cX5_passes 20 = .ok (.invokevirtual 79, 3) := by decide +kernel
theorem dX5_passes_23 : decode cX5_passes 23 = .ok (.ireturn, 1) := by decide +kernel
theorem dX5_count_0 : decode cX5_count 0 = .ok (.iload_n 1, 1) := by decide +kernel
theorem dX5_count_1 : decode cX5_count 1 = .ok (.tableswitch 69 0 5 #[39, 44, 49, 54, 59, 64], 39) := by decide +kernel
theorem dX5_count_40 : decode cX5_count 40 = .ok (.aload_n 0, 1) := by decide +kernel
theorem dX5_count_41 : decode cX5_count 41 = .ok (.getfield 42, 3) := by decide +kernel
theorem dX5_count_44 : decode cX5_count 44 = .ok (.ireturn, 1) := by decide +kernel
theorem dX5_count_45 : decode cX5_count 45 = .ok (.aload_n 0, 1) := by decide +kernel
theorem dX5_count_46 : decode cX5_count 46 = .ok (.invokevirtual 160, 3) := by decide +kernel
theorem dX5_count_49 : decode cX5_count 49 = .ok (.ireturn, 1) := by decide +kernel
theorem dX5_count_50 : decode cX5_count 50 = .ok (.aload_n 0, 1) := by decide +kernel
theorem dX5_count_51 : decode cX5_count 51 = .ok (.invokevirtual 157, 3) := by decide +kernel
theorem dX5_count_54 : decode cX5_count 54 = .ok (.ireturn, 1) := by decide +kernel
theorem dX5_count_55 : decode cX5_count 55 = .ok (.aload_n 0, 1) := by decide +kernel
theorem dX5_count_56 : decode cX5_count 56 = .ok (.invokevirtual 178, 3) := by decide +kernel
theorem dX5_count_59 : decode cX5_count 59 = .ok (.ireturn, 1) := by decide +kernel
theorem dX5_count_60 : decode cX5_count 60 = .ok (.aload_n 0, 1) := by decide +kernel
theorem dX5_count_61 : decode cX5_count 61 = .ok (.getfield 181, 3) := by decide +kernel
theorem dX5_count_64 : decode cX5_count 64 = .ok (.ireturn, 1) := by decide +kernel
theorem dX5_count_65 : decode cX5_count 65 = .ok (.aload_n 0, 1) := by decide +kernel
theorem dX5_count_66 : decode cX5_count 66 = .ok (.invokevirtual 184, 3) := by decide +kernel
theorem dX5_count_69 : decode cX5_count 69 = .ok (.ireturn, 1) := by decide +kernel
theorem dX5_count_70 : decode cX5_count 70 = .ok (.iconst (-1), 1) := by decide +kernel
theorem dX5_count_71 : decode cX5_count 71 = .ok (.ireturn, 1) := by decide +kernel
theorem dX5_isName_0 : decode cX5_isName 0 = .ok (.iload_n 0, 1) := by decide +kernel
theorem dX5_isName_1 : decode cX5_isName 1 = .ok (.ifCond .lt 13, 3) := by decide +kernel
theorem dX5_isName_4 : decode cX5_isName 4 = .ok (.iload_n 0, 1) := by decide +kernel
theorem dX5_isName_5 : decode cX5_isName 5 = .ok (.bipush 12, 2) := by decide +kernel
theorem dX5_isName_7 : decode cX5_isName 7 = .ok (.if_icmp .ge 7, 3) := by decide +kernel
theorem dX5_isName_10 : decode cX5_isName 10 = .ok (.iconst 1, 1) := by decide +kernel
theorem dX5_isName_11 : decode cX5_isName 11 = .ok (.goto 4, 3) := by decide +kernel
theorem dX5_isName_14 : decode cX5_isName 14 = .ok (.iconst 0, 1) := by decide +kernel
theorem dX5_isName_15 : decode cX5_isName 15 = .ok (.ireturn, 1) := by decide +kernel
theorem dX5_isHand_0 : decode cX5_isHand 0 = .ok (.iload_n 0, 1) := by decide +kernel
theorem dX5_isHand_1 : decode cX5_isHand 1 = .ok (.ifCond .lt 13, 3) := by decide +kernel
theorem dX5_isHand_4 : decode cX5_isHand 4 = .ok (.iload_n 0, 1) := by decide +kernel
theorem dX5_isHand_5 : decode cX5_isHand 5 = .ok (.bipush 8, 2) := by decide +kernel
theorem dX5_isHand_7 : decode cX5_isHand 7 = .ok (.if_icmp .ge 7, 3) := by decide +kernel
theorem dX5_isHand_10 : decode cX5_isHand 10 = .ok (.iconst 1, 1) := by decide +kernel
theorem dX5_isHand_11 : decode cX5_isHand 11 = .ok (.goto 4, 3) := by decide +kernel
theorem dX5_isHand_14 : decode cX5_isHand 14 = .ok (.iconst 0, 1) := by decide +kernel
theorem dX5_isHand_15 : decode cX5_isHand 15 = .ok (.ireturn, 1) := by decide +kernel
theorem dX5_isTime_0 : decode cX5_isTime 0 = .ok (.iload_n 0, 1) := by decide +kernel
theorem dX5_isTime_1 : decode cX5_isTime 1 = .ok (.iconst (-1), 1) := by decide +kernel
theorem dX5_isTime_2 : decode cX5_isTime 2 = .ok (.if_icmp .eq 13, 3) := by decide +kernel
theorem dX5_isTime_5 : decode cX5_isTime 5 = .ok (.iload_n 0, 1) := by decide +kernel
theorem dX5_isTime_6 : decode cX5_isTime 6 = .ok (.ifCond .lt 13, 3) := by decide +kernel
theorem dX5_isTime_9 : decode cX5_isTime 9 = .ok (.iload_n 0, 1) := by decide +kernel
theorem dX5_isTime_10 : decode cX5_isTime 10 = .ok (.ldc 187, 2) := by decide +kernel
theorem dX5_isTime_12 : decode cX5_isTime 12 = .ok (.if_icmp .gt 7, 3) := by decide +kernel
theorem dX5_isTime_15 : decode cX5_isTime 15 = .ok (.iconst 1, 1) := by decide +kernel
theorem dX5_isTime_16 : decode cX5_isTime 16 = .ok (.goto 4, 3) := by decide +kernel
theorem dX5_isTime_19 : decode cX5_isTime 19 = .ok (.iconst 0, 1) := by decide +kernel
theorem dX5_isTime_20 : decode cX5_isTime 20 = .ok (.ireturn, 1) := by decide +kernel
theorem dX5_caseAt_0 : decode cX5_caseAt 0 = .ok (.iload_n 1, 1) := by decide +kernel
theorem dX5_caseAt_1 : decode cX5_caseAt 1 = .ok (.ifCond .lt 29, 3) := by decide +kernel
theorem dX5_caseAt_4 : decode cX5_caseAt 4 = .ok (.iload_n 1, 1) := by decide +kernel
theorem dX5_caseAt_5 : decode cX5_caseAt 5 = .ok (.aload_n 0, 1) := by decide +kernel
theorem dX5_caseAt_6 : decode cX5_caseAt 6 = .ok (.getfield 42, 3) := by decide +kernel
theorem dX5_caseAt_9 : decode cX5_caseAt 9 = .ok (.if_icmp .ge 21, 3) := by decide +kernel
theorem dX5_caseAt_12 : decode cX5_caseAt 12 = .ok (.iload_n 1, 1) := by decide +kernel
theorem dX5_caseAt_13 : decode cX5_caseAt 13 = .ok (.aload_n 0, 1) := by decide +kernel
theorem dX5_caseAt_14 : decode cX5_caseAt 14 = .ok (.getfield 11, 3) := by decide +kernel
theorem dX5_caseAt_17 : decode cX5_caseAt 17 = .ok (.arraylength, 1) := by decide +kernel
theorem dX5_caseAt_18 : decode cX5_caseAt 18 = .ok (.if_icmp .ge 12, 3) := by decide +kernel
theorem dX5_caseAt_21 : decode cX5_caseAt 21 = .ok (.aload_n 0, 1) := by decide +kernel
theorem dX5_caseAt_22 : decode cX5_caseAt 22 = .ok (.getfield 11, 3) := by decide +kernel
theorem dX5_caseAt_25 : decode cX5_caseAt 25 = .ok (.iload_n 1, 1) := by decide +kernel
theorem dX5_caseAt_26 : decode cX5_caseAt 26 = .ok (.aaload, 1) := by decide +kernel
theorem dX5_caseAt_27 : decode cX5_caseAt 27 = .ok (.goto 4, 3) := by decide +kernel
theorem dX5_caseAt_30 : decode cX5_caseAt 30 = .ok (.aconst_null, 1) := by decide +kernel
theorem dX5_caseAt_31 : decode cX5_caseAt 31 = .ok (.areturn, 1) := by decide +kernel
theorem dX5_inLog_0 : decode cX5_inLog 0 = .ok (.aload_n 0, 1) := by decide +kernel
theorem dX5_inLog_1 : decode cX5_inLog 1 = .ok (.iload_n 1, 1) := by decide +kernel
theorem dX5_inLog_2 : decode cX5_inLog 2 = .ok (.invokevirtual 68, 3) := by decide +kernel
theorem dX5_inLog_5 : decode cX5_inLog 5 = .ok (.astore_n 2, 1) := by decide +kernel
theorem dX5_inLog_6 : decode cX5_inLog 6 = .ok (.aload_n 2, 1) := by decide +kernel
theorem dX5_inLog_7 : decode cX5_inLog 7 = .ok (.ifnull 10, 3) := by decide +kernel
theorem dX5_inLog_10 : decode cX5_inLog 10 = .ok (.aload_n 2, 1) := by decide +kernel
theorem dX5_inLog_11 : decode cX5_inLog 11 = .ok (.getfield 71, 3) := by decide +kernel
theorem dX5_inLog_14 : decode cX5_inLog 14 = .ok (.ifCond .eq 7, 3) := by decide +kernel
theorem dX5_inLog_17 : decode cX5_inLog 17 = .ok (.aconst_null, 1) := by decide +kernel
theorem dX5_inLog_18 : decode cX5_inLog 18 = .ok (.goto 4, 3) := by decide +kernel
theorem dX5_inLog_21 : decode cX5_inLog 21 = .ok (.aload_n 2, 1) := by decide +kernel
theorem dX5_inLog_22 : decode cX5_inLog 22 = .ok (.areturn, 1) := by decide +kernel
theorem dX5_pieceAt_0 : decode cX5_pieceAt 0 = .ok (.iload_n 1, 1) := by decide +kernel
theorem dX5_pieceAt_1 : decode cX5_pieceAt 1 = .ok (.ifCond .lt 29, 3) := by decide +kernel
theorem dX5_pieceAt_4 : decode cX5_pieceAt 4 = .ok (.iload_n 1, 1) := by decide +kernel
theorem dX5_pieceAt_5 : decode cX5_pieceAt 5 = .ok (.aload_n 0, 1) := by decide +kernel
theorem dX5_pieceAt_6 : decode cX5_pieceAt 6 = .ok (.getfield 181, 3) := by decide +kernel
theorem dX5_pieceAt_9 : decode cX5_pieceAt 9 = .ok (.if_icmp .ge 21, 3) := by decide +kernel
theorem dX5_pieceAt_12 : decode cX5_pieceAt 12 = .ok (.iload_n 1, 1) := by decide +kernel
theorem dX5_pieceAt_13 : decode cX5_pieceAt 13 = .ok (.aload_n 0, 1) := by decide +kernel
theorem dX5_pieceAt_14 : decode cX5_pieceAt 14 = .ok (.getfield 17, 3) := by decide +kernel
theorem dX5_pieceAt_17 : decode cX5_pieceAt 17 = .ok (.arraylength, 1) := by decide +kernel
theorem dX5_pieceAt_18 : decode cX5_pieceAt 18 = .ok (.if_icmp .ge 12, 3) := by decide +kernel
theorem dX5_pieceAt_21 : decode cX5_pieceAt 21 = .ok (.aload_n 0, 1) := by decide +kernel
theorem dX5_pieceAt_22 : decode cX5_pieceAt 22 = .ok (.getfield 17, 3) := by decide +kernel
theorem dX5_pieceAt_25 : decode cX5_pieceAt 25 = .ok (.iload_n 1, 1) := by decide +kernel
theorem dX5_pieceAt_26 : decode cX5_pieceAt 26 = .ok (.aaload, 1) := by decide +kernel
theorem dX5_pieceAt_27 : decode cX5_pieceAt 27 = .ok (.goto 4, 3) := by decide +kernel
theorem dX5_pieceAt_30 : decode cX5_pieceAt 30 = .ok (.aconst_null, 1) := by decide +kernel
theorem dX5_pieceAt_31 : decode cX5_pieceAt 31 = .ok (.areturn, 1) := by decide +kernel
theorem dX5_pairs_0 : decode cX5_pairs 0 = .ok (.iconst 0, 1) := by decide +kernel
theorem dX5_pairs_1 : decode cX5_pairs 1 = .ok (.istore 4, 2) := by decide +kernel
theorem dX5_pairs_3 : decode cX5_pairs 3 = .ok (.iconst 0, 1) := by decide +kernel
theorem dX5_pairs_4 : decode cX5_pairs 4 = .ok (.istore 5, 2) := by decide +kernel
theorem dX5_pairs_6 : decode cX5_pairs 6 = .ok (.iload 5, 2) := by decide +kernel
theorem dX5_pairs_8 : decode cX5_pairs 8 = .ok (.aload_n 0, 1) := by decide +kernel
theorem dX5_pairs_9 : decode cX5_pairs 9 = .ok (.getfield 42, 3) := by decide +kernel
theorem dX5_pairs_12 : decode cX5_pairs 12 = .ok (.if_icmp .ge 73, 3) := by decide +kernel
theorem dX5_pairs_15 : decode cX5_pairs 15 = .ok (.aload_n 0, 1) := by decide +kernel
theorem dX5_pairs_16 : decode cX5_pairs 16 = .ok (.iload 5, 2) := by decide +kernel
theorem dX5_pairs_18 : decode cX5_pairs 18 = .ok (.invokevirtual 47, 3) := by decide +kernel
theorem dX5_pairs_21 : decode cX5_pairs 21 = .ok (.astore 6, 2) := by decide +kernel
theorem dX5_pairs_23 : decode cX5_pairs 23 = .ok (.aload 6, 2) := by decide +kernel
theorem dX5_pairs_25 : decode cX5_pairs 25 = .ok (.ifnonnull 6, 3) := by decide +kernel
theorem dX5_pairs_28 : decode cX5_pairs 28 = .ok (.goto 51, 3) := by decide +kernel
theorem dX5_pairs_31 : decode cX5_pairs 31 = .ok (.iconst 1, 1) := by decide +kernel
theorem dX5_pairs_32 : decode cX5_pairs 32 = .ok (.istore 7, 2) := by decide +kernel
theorem dX5_pairs_34 : decode cX5_pairs 34 = .ok (.iload 7, 2) := by decide +kernel
theorem dX5_pairs_36 : decode cX5_pairs 36 = .ok (.aload 6, 2) := by decide +kernel
theorem dX5_pairs_38 : decode cX5_pairs 38 = .ok (.getfield 61, 3) := by decide +kernel
theorem dX5_pairs_41 : decode cX5_pairs 41 = .ok (.if_icmp .ge 38, 3) := by decide +kernel
theorem dX5_pairs_44 : decode cX5_pairs 44 = .ok (.aload 6, 2) := by decide +kernel
theorem dX5_pairs_46 : decode cX5_pairs 46 = .ok (.iload 7, 2) := by decide +kernel
theorem dX5_pairs_48 : decode cX5_pairs 48 = .ok (.iconst 1, 1) := by decide +kernel
theorem dX5_pairs_49 : decode cX5_pairs 49 = .ok (.isub, 1) := by decide +kernel
theorem dX5_pairs_50 : decode cX5_pairs 50 = .ok (.iload_n 1, 1) := by decide +kernel
theorem dX5_pairs_51 : decode cX5_pairs 51 = .ok (.invokevirtual 75, 3) := by decide +kernel
theorem dX5_pairs_54 : decode cX5_pairs 54 = .ok (.iload_n 2, 1) := by decide +kernel
theorem dX5_pairs_55 : decode cX5_pairs 55 = .ok (.if_icmp .ne 18, 3) := by decide +kernel
theorem dX5_pairs_58 : decode cX5_pairs 58 = .ok (.aload 6, 2) := by decide +kernel
theorem dX5_pairs_60 : decode cX5_pairs 60 = .ok (.iload 7, 2) := by decide +kernel
theorem dX5_pairs_62 : decode cX5_pairs 62 = .ok (.iload_n 1, 1) := by decide +kernel
theorem dX5_pairs_63 : decode cX5_pairs 63 = .ok (.invokevirtual 75, 3) := by decide +kernel
theorem dX5_pairs_66 : decode cX5_pairs 66 = .ok (.iload_n 3, 1) := by decide +kernel
theorem dX5_pairs_67 : decode cX5_pairs 67 = .ok (.if_icmp .ne 6, 3) := by decide +kernel
theorem dX5_pairs_70 : decode cX5_pairs 70 = .ok (.iinc 4 1, 3) := by decide +kernel
theorem dX5_pairs_73 : decode cX5_pairs 73 = .ok (.iinc 7 1, 3) := by decide +kernel
theorem dX5_pairs_76 : decode cX5_pairs 76 = .ok (.goto (-42), 3) := by decide +kernel
theorem dX5_pairs_79 : decode cX5_pairs 79 = .ok (.iinc 5 1, 3) := by decide +kernel
theorem dX5_pairs_82 : decode cX5_pairs 82 = .ok (.goto (-76), 3) := by decide +kernel
theorem dX5_pairs_85 : decode cX5_pairs 85 = .ok (.iload 4, 2) := by decide +kernel
theorem dX5_pairs_87 : decode cX5_pairs 87 = .ok (.ireturn, 1) := by decide +kernel
theorem dX5_trailsInLog_0 : decode cX5_trailsInLog 0 = .ok (.iconst 0, 1) := by decide +kernel
theorem dX5_trailsInLog_1 : decode cX5_trailsInLog 1 = .ok (.istore_n 1, 1) := by decide +kernel
theorem dX5_trailsInLog_2 : decode cX5_trailsInLog 2 = .ok (.iconst 0, 1) := by decide +kernel
theorem dX5_trailsInLog_3 : decode cX5_trailsInLog 3 = .ok (.istore_n 2, 1) := by decide +kernel
theorem dX5_trailsInLog_4 : decode cX5_trailsInLog 4 = .ok (.iload_n 2, 1) := by decide +kernel
theorem dX5_trailsInLog_5 : decode cX5_trailsInLog 5 = .ok (.aload_n 0, 1) := by decide +kernel
theorem dX5_trailsInLog_6 : decode cX5_trailsInLog 6 = .ok (.getfield 42, 3) := by decide +kernel
theorem dX5_trailsInLog_9 : decode cX5_trailsInLog 9 = .ok (.if_icmp .ge 20, 3) := by decide +kernel
theorem dX5_trailsInLog_12 : decode cX5_trailsInLog 12 = .ok (.aload_n 0, 1) := by decide +kernel
theorem dX5_trailsInLog_13 : decode cX5_trailsInLog 13 = .ok (.iload_n 2, 1) := by decide +kernel
theorem dX5_trailsInLog_14 : decode cX5_trailsInLog 14 = .ok (.invokevirtual 47, 3) := by decide +kernel
theorem dX5_trailsInLog_17 : decode cX5_trailsInLog 17 = .ok (.ifnull 6, 3) := by decide +kernel
theorem dX5_trailsInLog_20 : decode cX5_trailsInLog 20 = .ok (.iinc 1 1, 3) := by decide +kernel
theorem dX5_trailsInLog_23 : decode cX5_trailsInLog 23 = .ok (.iinc 2 1, 3) := by decide +kernel
theorem dX5_trailsInLog_26 : decode cX5_trailsInLog 26 = .ok (.goto (-22), 3) := by decide +kernel
theorem dX5_trailsInLog_29 : decode cX5_trailsInLog 29 = .ok (.iload_n 1, 1) := by decide +kernel
theorem dX5_trailsInLog_30 : decode cX5_trailsInLog 30 = .ok (.ireturn, 1) := by decide +kernel
theorem dX5_deedsInLog_0 : decode cX5_deedsInLog 0 = .ok (.iconst 0, 1) := by decide +kernel
theorem dX5_deedsInLog_1 : decode cX5_deedsInLog 1 = .ok (.istore_n 1, 1) := by decide +kernel
theorem dX5_deedsInLog_2 : decode cX5_deedsInLog 2 = .ok (.iconst 0, 1) := by decide +kernel
theorem dX5_deedsInLog_3 : decode cX5_deedsInLog 3 = .ok (.istore_n 2, 1) := by decide +kernel
theorem dX5_deedsInLog_4 : decode cX5_deedsInLog 4 = .ok (.iload_n 2, 1) := by decide +kernel
theorem dX5_deedsInLog_5 : decode cX5_deedsInLog 5 = .ok (.aload_n 0, 1) := by decide +kernel
theorem dX5_deedsInLog_6 : decode cX5_deedsInLog 6 = .ok (.getfield 42, 3) := by decide +kernel
theorem dX5_deedsInLog_9 : decode cX5_deedsInLog 9 = .ok (.if_icmp .ge 26, 3) := by decide +kernel
theorem dX5_deedsInLog_12 : decode cX5_deedsInLog 12 = .ok (.aload_n 0, 1) := by decide +kernel
theorem dX5_deedsInLog_13 : decode cX5_deedsInLog 13 = .ok (.iload_n 2, 1) := by decide +kernel
theorem dX5_deedsInLog_14 : decode cX5_deedsInLog 14 = .ok (.invokevirtual 47, 3) := by decide +kernel
theorem dX5_deedsInLog_17 : decode cX5_deedsInLog 17 = .ok (.astore_n 3, 1) := by decide +kernel
theorem dX5_deedsInLog_18 : decode cX5_deedsInLog 18 = .ok (.aload_n 3, 1) := by decide +kernel
theorem dX5_deedsInLog_19 : decode cX5_deedsInLog 19 = .ok (.ifnull 10, 3) := by decide +kernel
theorem dX5_deedsInLog_22 : decode cX5_deedsInLog 22 = .ok (.iload_n 1, 1) := by decide +kernel
theorem dX5_deedsInLog_23 : decode cX5_deedsInLog 23 = .ok (.aload_n 3, 1) := by decide +kernel
theorem dX5_deedsInLog_24 : decode cX5_deedsInLog 24 = .ok (.getfield 61, 3) := by decide +kernel
theorem dX5_deedsInLog_27 : decode cX5_deedsInLog 27 = .ok (.iadd, 1) := by decide +kernel
theorem dX5_deedsInLog_28 : decode cX5_deedsInLog 28 = .ok (.istore_n 1, 1) := by decide +kernel
theorem dX5_deedsInLog_29 : decode cX5_deedsInLog 29 = .ok (.iinc 2 1, 3) := by decide +kernel
theorem dX5_deedsInLog_32 : decode cX5_deedsInLog 32 = .ok (.goto (-28), 3) := by decide +kernel
theorem dX5_deedsInLog_35 : decode cX5_deedsInLog 35 = .ok (.iload_n 1, 1) := by decide +kernel
theorem dX5_deedsInLog_36 : decode cX5_deedsInLog 36 = .ok (.ireturn, 1) := by decide +kernel
theorem dX5_namesInLog_0 : decode cX5_namesInLog 0 = .ok (.iconst 0, 1) := by decide +kernel
theorem dX5_namesInLog_1 : decode cX5_namesInLog 1 = .ok (.istore_n 1, 1) := by decide +kernel
theorem dX5_namesInLog_2 : decode cX5_namesInLog 2 = .ok (.iconst 0, 1) := by decide +kernel
theorem dX5_namesInLog_3 : decode cX5_namesInLog 3 = .ok (.istore_n 2, 1) := by decide +kernel
theorem dX5_namesInLog_4 : decode cX5_namesInLog 4 = .ok (.iload_n 2, 1) := by decide +kernel
theorem dX5_namesInLog_5 : decode cX5_namesInLog 5 = .ok (.bipush 12, 2) := by decide +kernel
theorem dX5_namesInLog_7 : decode cX5_namesInLog 7 = .ok (.if_icmp .ge 21, 3) := by decide +kernel
theorem dX5_namesInLog_10 : decode cX5_namesInLog 10 = .ok (.aload_n 0, 1) := by decide +kernel
theorem dX5_namesInLog_11 : decode cX5_namesInLog 11 = .ok (.iload_n 2, 1) := by decide +kernel
theorem dX5_namesInLog_12 : decode cX5_namesInLog 12 = .ok (.iconst 2, 1) := by decide +kernel
theorem dX5_namesInLog_13 : decode cX5_namesInLog 13 = .ok (.invokevirtual 188, 3) := by decide +kernel
theorem dX5_namesInLog_16 : decode cX5_namesInLog 16 = .ok (.ifCond .le 6, 3) := by decide +kernel
theorem dX5_namesInLog_19 : decode cX5_namesInLog 19 = .ok (.iinc 1 1, 3) := by decide +kernel
theorem dX5_namesInLog_22 : decode cX5_namesInLog 22 = .ok (.iinc 2 1, 3) := by decide +kernel
theorem dX5_namesInLog_25 : decode cX5_namesInLog 25 = .ok (.goto (-21), 3) := by decide +kernel
theorem dX5_namesInLog_28 : decode cX5_namesInLog 28 = .ok (.iload_n 1, 1) := by decide +kernel
theorem dX5_namesInLog_29 : decode cX5_namesInLog 29 = .ok (.ireturn, 1) := by decide +kernel
theorem dX5_unlikeTrails_0 : decode cX5_unlikeTrails 0 = .ok (.iconst 0, 1) := by decide +kernel
theorem dX5_unlikeTrails_1 : decode cX5_unlikeTrails 1 = .ok (.istore_n 1, 1) := by decide +kernel
theorem dX5_unlikeTrails_2 : decode cX5_unlikeTrails 2 = .ok (.iconst 0, 1) := by decide +kernel
theorem dX5_unlikeTrails_3 : decode cX5_unlikeTrails 3 = .ok (.istore_n 2, 1) := by decide +kernel
theorem dX5_unlikeTrails_4 : decode cX5_unlikeTrails 4 = .ok (.iload_n 2, 1) := by decide +kernel
theorem dX5_unlikeTrails_5 : decode cX5_unlikeTrails 5 = .ok (.aload_n 0, 1) := by decide +kernel
theorem dX5_unlikeTrails_6 : decode cX5_unlikeTrails 6 = .ok (.getfield 42, 3) := by decide +kernel
theorem dX5_unlikeTrails_9 : decode cX5_unlikeTrails 9 = .ok (.if_icmp .ge 34, 3) := by decide +kernel
theorem dX5_unlikeTrails_12 : decode cX5_unlikeTrails 12 = .ok (.aload_n 0, 1) := by decide +kernel
theorem dX5_unlikeTrails_13 : decode cX5_unlikeTrails 13 = .ok (.iload_n 2, 1) := by decide +kernel
theorem dX5_unlikeTrails_14 : decode cX5_unlikeTrails 14 = .ok (.invokevirtual 47, 3) := by decide +kernel
theorem dX5_unlikeTrails_17 : decode cX5_unlikeTrails 17 = .ok (.astore_n 3, 1) := by decide +kernel
theorem dX5_unlikeTrails_18 : decode cX5_unlikeTrails 18 = .ok (.aload_n 3, 1) := by decide +kernel
theorem dX5_unlikeTrails_19 : decode cX5_unlikeTrails 19 = .ok (.ifnull 18, 3) := by decide +kernel
theorem dX5_unlikeTrails_22 : decode cX5_unlikeTrails 22 = .ok (.aload_n 0, 1) := by decide +kernel
theorem dX5_unlikeTrails_23 : decode cX5_unlikeTrails 23 = .ok (.aload_n 3, 1) := by decide +kernel
theorem dX5_unlikeTrails_24 : decode cX5_unlikeTrails 24 = .ok (.invokevirtual 135, 3) := by decide +kernel
theorem dX5_unlikeTrails_27 : decode cX5_unlikeTrails 27 = .ok (.iload_n 2, 1) := by decide +kernel
theorem dX5_unlikeTrails_28 : decode cX5_unlikeTrails 28 = .ok (.invokevirtual 191, 3) := by decide +kernel
theorem dX5_unlikeTrails_31 : decode cX5_unlikeTrails 31 = .ok (.ifCond .ne 6, 3) := by decide +kernel
theorem dX5_unlikeTrails_34 : decode cX5_unlikeTrails 34 = .ok (.iinc 1 1, 3) := by decide +kernel
theorem dX5_unlikeTrails_37 : decode cX5_unlikeTrails 37 = .ok (.iinc 2 1, 3) := by decide +kernel
theorem dX5_unlikeTrails_40 : decode cX5_unlikeTrails 40 = .ok (.goto (-36), 3) := by decide +kernel
theorem dX5_unlikeTrails_43 : decode cX5_unlikeTrails 43 = .ok (.iload_n 1, 1) := by decide +kernel
theorem dX5_unlikeTrails_44 : decode cX5_unlikeTrails 44 = .ok (.ireturn, 1) := by decide +kernel
theorem dX5_stoodAhead_0 : decode cX5_stoodAhead 0 = .ok (.iconst 0, 1) := by decide +kernel
theorem dX5_stoodAhead_1 : decode cX5_stoodAhead 1 = .ok (.istore_n 3, 1) := by decide +kernel
theorem dX5_stoodAhead_2 : decode cX5_stoodAhead 2 = .ok (.iload_n 3, 1) := by decide +kernel
theorem dX5_stoodAhead_3 : decode cX5_stoodAhead 3 = .ok (.iload_n 2, 1) := by decide +kernel
theorem dX5_stoodAhead_4 : decode cX5_stoodAhead 4 = .ok (.if_icmp .ge 32, 3) := by decide +kernel
theorem dX5_stoodAhead_7 : decode cX5_stoodAhead 7 = .ok (.aload_n 0, 1) := by decide +kernel
theorem dX5_stoodAhead_8 : decode cX5_stoodAhead 8 = .ok (.iload_n 3, 1) := by decide +kernel
theorem dX5_stoodAhead_9 : decode cX5_stoodAhead 9 = .ok (.invokevirtual 47, 3) := by decide +kernel
theorem dX5_stoodAhead_12 : decode cX5_stoodAhead 12 = .ok (.astore 4, 2) := by decide +kernel
theorem dX5_stoodAhead_14 : decode cX5_stoodAhead 14 = .ok (.aload 4, 2) := by decide +kernel
theorem dX5_stoodAhead_16 : decode cX5_stoodAhead 16 = .ok (.ifnull 14, 3) := by decide +kernel
theorem dX5_stoodAhead_19 : decode cX5_stoodAhead 19 = .ok (.aload 4, 2) := by decide +kernel
theorem dX5_stoodAhead_21 : decode cX5_stoodAhead 21 = .ok (.invokevirtual 135, 3) := by decide +kernel
theorem dX5_stoodAhead_24 : decode cX5_stoodAhead 24 = .ok (.iload_n 1, 1) := by decide +kernel
theorem dX5_stoodAhead_25 : decode cX5_stoodAhead 25 = .ok (.if_icmp .ne 5, 3) := by decide +kernel
theorem dX5_stoodAhead_28 : decode cX5_stoodAhead 28 = .ok (.iconst 1, 1) := by decide +kernel
theorem dX5_stoodAhead_29 : decode cX5_stoodAhead 29 = .ok (.ireturn, 1) := by decide +kernel
theorem dX5_stoodAhead_30 : decode cX5_stoodAhead 30 = .ok (.iinc 3 1, 3) := by decide +kernel
theorem dX5_stoodAhead_33 : decode cX5_stoodAhead 33 = .ok (.goto (-31), 3) := by decide +kernel
theorem dX5_stoodAhead_36 : decode cX5_stoodAhead 36 = .ok (.iconst 0, 1) := by decide +kernel
theorem dX5_stoodAhead_37 : decode cX5_stoodAhead 37 = .ok (.ireturn, 1) := by decide +kernel
theorem dX5_sumWaits_0 : decode cX5_sumWaits 0 = .ok (.aload_n 0, 1) := by decide +kernel
theorem dX5_sumWaits_1 : decode cX5_sumWaits 1 = .ok (.getfield 34, 3) := by decide +kernel
theorem dX5_sumWaits_4 : decode cX5_sumWaits 4 = .ok (.iconst 0, 1) := by decide +kernel
theorem dX5_sumWaits_5 : decode cX5_sumWaits 5 = .ok (.invokestatic 195, 3) := by decide +kernel
theorem dX5_sumWaits_8 : decode cX5_sumWaits 8 = .ok (.aload_n 0, 1) := by decide +kernel
theorem dX5_sumWaits_9 : decode cX5_sumWaits 9 = .ok (.getfield 38, 3) := by decide +kernel
theorem dX5_sumWaits_12 : decode cX5_sumWaits 12 = .ok (.iconst 0, 1) := by decide +kernel
theorem dX5_sumWaits_13 : decode cX5_sumWaits 13 = .ok (.invokestatic 195, 3) := by decide +kernel
theorem dX5_sumWaits_16 : decode cX5_sumWaits 16 = .ok (.iconst 0, 1) := by decide +kernel
theorem dX5_sumWaits_17 : decode cX5_sumWaits 17 = .ok (.istore_n 1, 1) := by decide +kernel
theorem dX5_sumWaits_18 : decode cX5_sumWaits 18 = .ok (.iload_n 1, 1) := by decide +kernel
theorem dX5_sumWaits_19 : decode cX5_sumWaits 19 = .ok (.aload_n 0, 1) := by decide +kernel
theorem dX5_sumWaits_20 : decode cX5_sumWaits 20 = .ok (.getfield 42, 3) := by decide +kernel
theorem dX5_sumWaits_23 : decode cX5_sumWaits 23 = .ok (.if_icmp .ge 44, 3) := by decide +kernel
theorem dX5_sumWaits_26 : decode cX5_sumWaits 26 = .ok (.aload_n 0, 1) := by decide +kernel
theorem dX5_sumWaits_27 : decode cX5_sumWaits 27 = .ok (.iload_n 1, 1) := by decide +kernel
theorem dX5_sumWaits_28 : decode cX5_sumWaits 28 = .ok (.invokevirtual 47, 3) := by decide +kernel
theorem dX5_sumWaits_31 : decode cX5_sumWaits 31 = .ok (.astore_n 2, 1) := by decide +kernel
theorem dX5_sumWaits_32 : decode cX5_sumWaits 32 = .ok (.aload_n 2, 1) := by decide +kernel
theorem dX5_sumWaits_33 : decode cX5_sumWaits 33 = .ok (.ifnonnull 6, 3) := by decide +kernel
theorem dX5_sumWaits_36 : decode cX5_sumWaits 36 = .ok (.goto 25, 3) := by decide +kernel
theorem dX5_sumWaits_39 : decode cX5_sumWaits 39 = .ok (.iconst 1, 1) := by decide +kernel
theorem dX5_sumWaits_40 : decode cX5_sumWaits 40 = .ok (.istore_n 3, 1) := by decide +kernel
theorem dX5_sumWaits_41 : decode cX5_sumWaits 41 = .ok (.iload_n 3, 1) := by decide +kernel
theorem dX5_sumWaits_42 : decode cX5_sumWaits 42 = .ok (.aload_n 2, 1) := by decide +kernel
theorem dX5_sumWaits_43 : decode cX5_sumWaits 43 = .ok (.getfield 61, 3) := by decide +kernel
theorem dX5_sumWaits_46 : decode cX5_sumWaits 46 = .ok (.if_icmp .ge 15, 3) := by decide +kernel
theorem dX5_sumWaits_49 : decode cX5_sumWaits 49 = .ok (.aload_n 0, 1) := by decide +kernel
theorem dX5_sumWaits_50 : decode cX5_sumWaits 50 = .ok (.aload_n 2, 1) := by decide +kernel
theorem dX5_sumWaits_51 : decode cX5_sumWaits 51 = .ok (.iload_n 3, 1) := by decide +kernel
theorem dX5_sumWaits_52 : decode cX5_sumWaits 52 = .ok (.invokevirtual 201, 3) := by decide +kernel
theorem dX5_sumWaits_55 : decode cX5_sumWaits 55 = .ok (.iinc 3 1, 3) := by decide +kernel
theorem dX5_sumWaits_58 : decode cX5_sumWaits 58 = .ok (.goto (-17), 3) := by decide +kernel
theorem dX5_sumWaits_61 : decode cX5_sumWaits 61 = .ok (.iinc 1 1, 3) := by decide +kernel
theorem dX5_sumWaits_64 : decode cX5_sumWaits 64 = .ok (.goto (-46), 3) := by decide +kernel
theorem dX5_sumWaits_67 : decode cX5_sumWaits 67 = .ok (.return_, 1) := by decide +kernel
theorem dX5_sumWait_0 : decode cX5_sumWait 0 = .ok (.aload_n 1, 1) := by decide +kernel
theorem dX5_sumWait_1 : decode cX5_sumWait 1 = .ok (.iload_n 2, 1) := by decide +kernel
theorem dX5_sumWait_2 : decode cX5_sumWait 2 = .ok (.iconst 1, 1) := by decide +kernel
theorem dX5_sumWait_3 : decode cX5_sumWait 3 = .ok (.isub, 1) := by decide +kernel
theorem dX5_sumWait_4 : decode cX5_sumWait 4 = .ok (.iconst 3, 1) := by decide +kernel
theorem dX5_sumWait_5 : decode cX5_sumWait 5 = .ok (.invokevirtual 75, 3) := by decide +kernel
theorem dX5_sumWait_8 : decode cX5_sumWait 8 = .ok (.istore_n 3, 1) := by decide +kernel
theorem dX5_sumWait_9 : decode cX5_sumWait 9 = .ok (.aload_n 1, 1) := by decide +kernel
theorem dX5_sumWait_10 : decode cX5_sumWait 10 = .ok (.iload_n 2, 1) := by decide +kernel
theorem dX5_sumWait_11 : decode cX5_sumWait 11 = .ok (.iconst 2, 1) := by decide +kernel
theorem dX5_sumWait_12 : decode cX5_sumWait 12 = .ok (.invokevirtual 75, 3) := by decide +kernel
theorem dX5_sumWait_15 : decode cX5_sumWait 15 = .ok (.istore 4, 2) := by decide +kernel
theorem dX5_sumWait_17 : decode cX5_sumWait 17 = .ok (.bipush 12, 2) := by decide +kernel
theorem dX5_sumWait_19 : decode cX5_sumWait 19 = .ok (.aload_n 1, 1) := by decide +kernel
theorem dX5_sumWait_20 : decode cX5_sumWait 20 = .ok (.iload_n 2, 1) := by decide +kernel
theorem dX5_sumWait_21 : decode cX5_sumWait 21 = .ok (.iconst 0, 1) := by decide +kernel
theorem dX5_sumWait_22 : decode cX5_sumWait 22 = .ok (.invokevirtual 75, 3) := by decide +kernel
theorem dX5_sumWait_25 : decode cX5_sumWait 25 = .ok (.imul, 1) := by decide +kernel
theorem dX5_sumWait_26 : decode cX5_sumWait 26 = .ok (.aload_n 1, 1) := by decide +kernel
theorem dX5_sumWait_27 : decode cX5_sumWait 27 = .ok (.iload_n 2, 1) := by decide +kernel
theorem dX5_sumWait_28 : decode cX5_sumWait 28 = .ok (.iconst 1, 1) := by decide +kernel
theorem dX5_sumWait_29 : decode cX5_sumWait 29 = .ok (.isub, 1) := by decide +kernel
theorem dX5_sumWait_30 : decode cX5_sumWait 30 = .ok (.iconst 0, 1) := by decide +kernel
theorem dX5_sumWait_31 : decode cX5_sumWait 31 = .ok (.invokevirtual 75, 3) := by decide +kernel
theorem dX5_sumWait_34 : decode cX5_sumWait 34 = .ok (.iadd, 1) := by decide +kernel
theorem dX5_sumWait_35 : decode cX5_sumWait 35 = .ok (.istore 5, 2) := by decide +kernel
theorem dX5_sumWait_37 : decode cX5_sumWait 37 = .ok (.iload_n 3, 1) := by decide +kernel
theorem dX5_sumWait_38 : decode cX5_sumWait 38 = .ok (.iconst (-1), 1) := by decide +kernel
theorem dX5_sumWait_39 : decode cX5_sumWait 39 = .ok (.if_icmp .eq 24, 3) := by decide +kernel
theorem dX5_sumWait_42 : decode cX5_sumWait 42 = .ok (.iload 4, 2) := by decide +kernel
theorem dX5_sumWait_44 : decode cX5_sumWait 44 = .ok (.iconst (-1), 1) := by decide +kernel
theorem dX5_sumWait_45 : decode cX5_sumWait 45 = .ok (.if_icmp .eq 18, 3) := by decide +kernel
theorem dX5_sumWait_48 : decode cX5_sumWait 48 = .ok (.iload 5, 2) := by decide +kernel
theorem dX5_sumWait_50 : decode cX5_sumWait 50 = .ok (.ifCond .lt 13, 3) := by decide +kernel
theorem dX5_sumWait_53 : decode cX5_sumWait 53 = .ok (.iload 5, 2) := by decide +kernel
theorem dX5_sumWait_55 : decode cX5_sumWait 55 = .ok (.aload_n 0, 1) := by decide +kernel
theorem dX5_sumWait_56 : decode cX5_sumWait 56 = .ok (.getfield 34, 3) := by decide +kernel
theorem dX5_sumWait_59 : decode cX5_sumWait 59 = .ok (.arraylength, 1) := by decide +kernel
theorem dX5_sumWait_60 : decode cX5_sumWait 60 = .ok (.if_icmp .lt 4, 3) := by decide +kernel
theorem dX5_sumWait_63 : decode cX5_sumWait 63 = .ok (.return_, 1) := by decide +kernel
theorem dX5_sumWait_64 : decode cX5_sumWait 64 = .ok (.aload_n 0, 1) := by decide +kernel
theorem dX5_sumWait_65 : decode cX5_sumWait 65 = .ok (.getfield 34, 3) := by decide +kernel
theorem dX5_sumWait_68 : decode cX5_sumWait 68 = .ok (.iload 5, 2) := by decide +kernel
theorem dX5_sumWait_70 : decode cX5_sumWait 70 = .ok (.dup2, 1) := by decide +kernel
theorem dX5_sumWait_71 : decode cX5_sumWait 71 = .ok (.iaload, 1) := by decide +kernel
theorem dX5_sumWait_72 : decode cX5_sumWait 72 = .ok (.iload 4, 2) := by decide +kernel
theorem dX5_sumWait_74 : decode cX5_sumWait 74 = .ok (.iload_n 3, 1) := by decide +kernel
theorem dX5_sumWait_75 : decode cX5_sumWait 75 = .ok (.isub, 1) := by decide +kernel
theorem dX5_sumWait_76 : decode cX5_sumWait 76 = .ok (.iadd, 1) := by decide +kernel
theorem dX5_sumWait_77 : decode cX5_sumWait 77 = .ok (.iastore, 1) := by decide +kernel
theorem dX5_sumWait_78 : decode cX5_sumWait 78 = .ok (.aload_n 0, 1) := by decide +kernel
theorem dX5_sumWait_79 : decode cX5_sumWait 79 = .ok (.getfield 38, 3) := by decide +kernel
theorem dX5_sumWait_82 : decode cX5_sumWait 82 = .ok (.iload 5, 2) := by decide +kernel
theorem dX5_sumWait_84 : decode cX5_sumWait 84 = .ok (.dup2, 1) := by decide +kernel
theorem dX5_sumWait_85 : decode cX5_sumWait 85 = .ok (.iaload, 1) := by decide +kernel
theorem dX5_sumWait_86 : decode cX5_sumWait 86 = .ok (.iconst 1, 1) := by decide +kernel
theorem dX5_sumWait_87 : decode cX5_sumWait 87 = .ok (.iadd, 1) := by decide +kernel
theorem dX5_sumWait_88 : decode cX5_sumWait 88 = .ok (.iastore, 1) := by decide +kernel
theorem dX5_sumWait_89 : decode cX5_sumWait 89 = .ok (.return_, 1) := by decide +kernel
theorem dX5_slowerThan_0 : decode cX5_slowerThan 0 = .ok (.iconst 0, 1) := by decide +kernel
theorem dX5_slowerThan_1 : decode cX5_slowerThan 1 = .ok (.istore_n 2, 1) := by decide +kernel
theorem dX5_slowerThan_2 : decode cX5_slowerThan 2 = .ok (.iconst 0, 1) := by decide +kernel
theorem dX5_slowerThan_3 : decode cX5_slowerThan 3 = .ok (.istore_n 3, 1) := by decide +kernel
theorem dX5_slowerThan_4 : decode cX5_slowerThan 4 = .ok (.iload_n 3, 1) := by decide +kernel
theorem dX5_slowerThan_5 : decode cX5_slowerThan 5 = .ok (.aload_n 0, 1) := by decide +kernel
theorem dX5_slowerThan_6 : decode cX5_slowerThan 6 = .ok (.getfield 34, 3) := by decide +kernel
theorem dX5_slowerThan_9 : decode cX5_slowerThan 9 = .ok (.arraylength, 1) := by decide +kernel
theorem dX5_slowerThan_10 : decode cX5_slowerThan 10 = .ok (.if_icmp .ge 59, 3) := by decide +kernel
theorem dX5_slowerThan_13 : decode cX5_slowerThan 13 = .ok (.aload_n 0, 1) := by decide +kernel
theorem dX5_slowerThan_14 : decode cX5_slowerThan 14 = .ok (.getfield 38, 3) := by decide +kernel
theorem dX5_slowerThan_17 : decode cX5_slowerThan 17 = .ok (.iload_n 3, 1) := by decide +kernel
theorem dX5_slowerThan_18 : decode cX5_slowerThan 18 = .ok (.iaload, 1) := by decide +kernel
theorem dX5_slowerThan_19 : decode cX5_slowerThan 19 = .ok (.ifCond .ne 6, 3) := by decide +kernel
theorem dX5_slowerThan_22 : decode cX5_slowerThan 22 = .ok (.goto 41, 3) := by decide +kernel
theorem dX5_slowerThan_25 : decode cX5_slowerThan 25 = .ok (.aload_n 0, 1) := by decide +kernel
theorem dX5_slowerThan_26 : decode cX5_slowerThan 26 = .ok (.getfield 34, 3) := by decide +kernel
theorem dX5_slowerThan_29 : decode cX5_slowerThan 29 = .ok (.iload_n 3, 1) := by decide +kernel
theorem dX5_slowerThan_30 : decode cX5_slowerThan 30 = .ok (.iaload, 1) := by decide +kernel
theorem dX5_slowerThan_31 : decode cX5_slowerThan 31 = .ok (.aload_n 0, 1) := by decide +kernel
theorem dX5_slowerThan_32 : decode cX5_slowerThan 32 = .ok (.getfield 34, 3) := by decide +kernel
theorem dX5_slowerThan_35 : decode cX5_slowerThan 35 = .ok (.iload_n 1, 1) := by decide +kernel
theorem dX5_slowerThan_36 : decode cX5_slowerThan 36 = .ok (.iaload, 1) := by decide +kernel
theorem dX5_slowerThan_37 : decode cX5_slowerThan 37 = .ok (.if_icmp .gt 23, 3) := by decide +kernel
theorem dX5_slowerThan_40 : decode cX5_slowerThan 40 = .ok (.aload_n 0, 1) := by decide +kernel
theorem dX5_slowerThan_41 : decode cX5_slowerThan 41 = .ok (.getfield 34, 3) := by decide +kernel
theorem dX5_slowerThan_44 : decode cX5_slowerThan 44 = .ok (.iload_n 3, 1) := by decide +kernel
theorem dX5_slowerThan_45 : decode cX5_slowerThan 45 = .ok (.iaload, 1) := by decide +kernel
theorem dX5_slowerThan_46 : decode cX5_slowerThan 46 = .ok (.aload_n 0, 1) := by decide +kernel
theorem dX5_slowerThan_47 : decode cX5_slowerThan 47 = .ok (.getfield 34, 3) := by decide +kernel
theorem dX5_slowerThan_50 : decode cX5_slowerThan 50 = .ok (.iload_n 1, 1) := by decide +kernel
theorem dX5_slowerThan_51 : decode cX5_slowerThan 51 = .ok (.iaload, 1) := by decide +kernel
theorem dX5_slowerThan_52 : decode cX5_slowerThan 52 = .ok (.if_icmp .ne 11, 3) := by decide +kernel
theorem dX5_slowerThan_55 : decode cX5_slowerThan 55 = .ok (.iload_n 3, 1) := by decide +kernel
theorem dX5_slowerThan_56 : decode cX5_slowerThan 56 = .ok (.iload_n 1, 1) := by decide +kernel
theorem dX5_slowerThan_57 : decode cX5_slowerThan 57 = .ok (.if_icmp .ge 6, 3) := by decide +kernel
theorem dX5_slowerThan_60 : decode cX5_slowerThan 60 = .ok (.iinc 2 1, 3) := by decide +kernel
theorem dX5_slowerThan_63 : decode cX5_slowerThan 63 = .ok (.iinc 3 1, 3) := by decide +kernel
theorem dX5_slowerThan_66 : decode cX5_slowerThan 66 = .ok (.goto (-62), 3) := by decide +kernel
theorem dX5_slowerThan_69 : decode cX5_slowerThan 69 = .ok (.iload_n 2, 1) := by decide +kernel
theorem dX5_slowerThan_70 : decode cX5_slowerThan 70 = .ok (.ireturn, 1) := by decide +kernel
theorem dX5_keep_0 : decode cX5_keep 0 = .ok (.aload_n 1, 1) := by decide +kernel
theorem dX5_keep_1 : decode cX5_keep 1 = .ok (.getfield 118, 3) := by decide +kernel
theorem dX5_keep_4 : decode cX5_keep 4 = .ok (.bipush 60, 2) := by decide +kernel
theorem dX5_keep_6 : decode cX5_keep 6 = .ok (.if_icmp .gt 15, 3) := by decide +kernel
theorem dX5_keep_9 : decode cX5_keep 9 = .ok (.aload_n 0, 1) := by decide +kernel
theorem dX5_keep_10 : decode cX5_keep 10 = .ok (.getfield 181, 3) := by decide +kernel
theorem dX5_keep_13 : decode cX5_keep 13 = .ok (.iload_n 2, 1) := by decide +kernel
theorem dX5_keep_14 : decode cX5_keep 14 = .ok (.iadd, 1) := by decide +kernel
theorem dX5_keep_15 : decode cX5_keep 15 = .ok (.sipush 200, 3) := by decide +kernel
theorem dX5_keep_18 : decode cX5_keep 18 = .ok (.if_icmp .le 6, 3) := by decide +kernel
theorem dX5_keep_21 : decode cX5_keep 21 = .ok (.bipush (-2), 2) := by decide +kernel
theorem dX5_keep_23 : decode cX5_keep 23 = .ok (.ireturn, 1) := by decide +kernel
theorem dX5_keep_24 : decode cX5_keep 24 = .ok (.aload_n 0, 1) := by decide +kernel
theorem dX5_keep_25 : decode cX5_keep 25 = .ok (.aload_n 1, 1) := by decide +kernel
theorem dX5_keep_26 : decode cX5_keep 26 = .ok (.aload_n 0, 1) := by decide +kernel
theorem dX5_keep_27 : decode cX5_keep 27 = .ok (.getfield 17, 3) := by decide +kernel
theorem dX5_keep_30 : decode cX5_keep 30 = .ok (.aload_n 0, 1) := by decide +kernel
theorem dX5_keep_31 : decode cX5_keep 31 = .ok (.getfield 181, 3) := by decide +kernel
theorem dX5_keep_34 : decode cX5_keep 34 = .ok (.iconst 0, 1) := by decide +kernel
theorem dX5_keep_35 : decode cX5_keep 35 = .ok (.invokestatic 205, 3) := by decide +kernel
theorem dX5_keep_38 : decode cX5_keep 38 = .ok (.putfield 181, 3) := by decide +kernel
theorem dX5_keep_41 : decode cX5_keep 41 = .ok (.aload_n 1, 1) := by decide +kernel
theorem dX5_keep_42 : decode cX5_keep 42 = .ok (.getfield 121, 3) := by decide +kernel
theorem dX5_keep_45 : decode cX5_keep 45 = .ok (.ireturn, 1) := by decide +kernel
theorem dX5_enter_0 : decode cX5_enter 0 = .ok (.aload_n 0, 1) := by decide +kernel
theorem dX5_enter_1 : decode cX5_enter 1 = .ok (.getfield 121, 3) := by decide +kernel
theorem dX5_enter_4 : decode cX5_enter 4 = .ok (.bipush (-3), 2) := by decide +kernel
theorem dX5_enter_6 : decode cX5_enter 6 = .ok (.if_icmp .ne 9, 3) := by decide +kernel
theorem dX5_enter_9 : decode cX5_enter 9 = .ok (.iload_n 3, 1) := by decide +kernel
theorem dX5_enter_10 : decode cX5_enter 10 = .ok (.bipush 40, 2) := by decide +kernel
theorem dX5_enter_12 : decode cX5_enter 12 = .ok (.if_icmp .le 5, 3) := by decide +kernel
theorem dX5_enter_15 : decode cX5_enter 15 = .ok (.iload_n 2, 1) := by decide +kernel
theorem dX5_enter_16 : decode cX5_enter 16 = .ok (.ireturn, 1) := by decide +kernel
theorem dX5_enter_17 : decode cX5_enter 17 = .ok (.iload_n 2, 1) := by decide +kernel
theorem dX5_enter_18 : decode cX5_enter 18 = .ok (.istore 4, 2) := by decide +kernel
theorem dX5_enter_20 : decode cX5_enter 20 = .ok (.iconst 0, 1) := by decide +kernel
theorem dX5_enter_21 : decode cX5_enter 21 = .ok (.istore 5, 2) := by decide +kernel
theorem dX5_enter_23 : decode cX5_enter 23 = .ok (.iload 5, 2) := by decide +kernel
theorem dX5_enter_25 : decode cX5_enter 25 = .ok (.aload_n 0, 1) := by decide +kernel
theorem dX5_enter_26 : decode cX5_enter 26 = .ok (.getfield 106, 3) := by decide +kernel
theorem dX5_enter_29 : decode cX5_enter 29 = .ok (.arraylength, 1) := by decide +kernel
theorem dX5_enter_30 : decode cX5_enter 30 = .ok (.if_icmp .ge 27, 3) := by decide +kernel
theorem dX5_enter_33 : decode cX5_enter 33 = .ok (.aload_n 0, 1) := by decide +kernel
theorem dX5_enter_34 : decode cX5_enter 34 = .ok (.getfield 106, 3) := by decide +kernel
theorem dX5_enter_37 : decode cX5_enter 37 = .ok (.iload 5, 2) := by decide +kernel
theorem dX5_enter_39 : decode cX5_enter 39 = .ok (.aaload, 1) := by decide +kernel
theorem dX5_enter_40 : decode cX5_enter 40 = .ok (.aload_n 1, 1) := by decide +kernel
theorem dX5_enter_41 : decode cX5_enter 41 = .ok (.iload 4, 2) := by decide +kernel
theorem dX5_enter_43 : decode cX5_enter 43 = .ok (.iload_n 3, 1) := by decide +kernel
theorem dX5_enter_44 : decode cX5_enter 44 = .ok (.iconst 1, 1) := by decide +kernel
theorem dX5_enter_45 : decode cX5_enter 45 = .ok (.iadd, 1) := by decide +kernel
theorem dX5_enter_46 : decode cX5_enter 46 = .ok (.invokestatic 205, 3) := by decide +kernel
theorem dX5_enter_49 : decode cX5_enter 49 = .ok (.istore 4, 2) := by decide +kernel
theorem dX5_enter_51 : decode cX5_enter 51 = .ok (.iinc 5 1, 3) := by decide +kernel
theorem dX5_enter_54 : decode cX5_enter 54 = .ok (.goto (-31), 3) := by decide +kernel
theorem dX5_enter_57 : decode cX5_enter 57 = .ok (.iload 4, 2) := by decide +kernel
theorem dX5_enter_59 : decode cX5_enter 59 = .ok (.ifCond .lt 10, 3) := by decide +kernel
theorem dX5_enter_62 : decode cX5_enter 62 = .ok (.iload 4, 2) := by decide +kernel
theorem dX5_enter_64 : decode cX5_enter 64 = .ok (.aload_n 1, 1) := by decide +kernel
theorem dX5_enter_65 : decode cX5_enter 65 = .ok (.arraylength, 1) := by decide +kernel
theorem dX5_enter_66 : decode cX5_enter 66 = .ok (.if_icmp .lt 5, 3) := by decide +kernel
theorem dX5_enter_69 : decode cX5_enter 69 = .ok (.iload_n 2, 1) := by decide +kernel
theorem dX5_enter_70 : decode cX5_enter 70 = .ok (.ireturn, 1) := by decide +kernel
theorem dX5_enter_71 : decode cX5_enter 71 = .ok (.aload_n 1, 1) := by decide +kernel
theorem dX5_enter_72 : decode cX5_enter 72 = .ok (.iload 4, 2) := by decide +kernel
theorem dX5_enter_74 : decode cX5_enter 74 = .ok (.aload_n 0, 1) := by decide +kernel
theorem dX5_enter_75 : decode cX5_enter 75 = .ok (.aastore, 1) := by decide +kernel
theorem dX5_enter_76 : decode cX5_enter 76 = .ok (.aload_n 0, 1) := by decide +kernel
theorem dX5_enter_77 : decode cX5_enter 77 = .ok (.iload 4, 2) := by decide +kernel
theorem dX5_enter_79 : decode cX5_enter 79 = .ok (.putfield 121, 3) := by decide +kernel
theorem dX5_enter_82 : decode cX5_enter 82 = .ok (.iload 4, 2) := by decide +kernel
theorem dX5_enter_84 : decode cX5_enter 84 = .ok (.iconst 1, 1) := by decide +kernel
theorem dX5_enter_85 : decode cX5_enter 85 = .ok (.iadd, 1) := by decide +kernel
theorem dX5_enter_86 : decode cX5_enter 86 = .ok (.ireturn, 1) := by decide +kernel
theorem dX5_silence_0 : decode cX5_silence 0 = .ok (.new 15, 3) := by decide +kernel
theorem dX5_silence_3 : decode cX5_silence 3 = .ok (.dup, 1) := by decide +kernel
theorem dX5_silence_4 : decode cX5_silence 4 = .ok (.iconst 1, 1) := by decide +kernel
theorem dX5_silence_5 : decode cX5_silence 5 = .ok (.bipush (-3), 2) := by decide +kernel
theorem dX5_silence_7 : decode cX5_silence 7 = .ok (.iconst 0, 1) := by decide +kernel
theorem dX5_silence_8 : decode cX5_silence 8 = .ok (.anewarray 15, 3) := by decide +kernel
theorem dX5_silence_11 : decode cX5_silence 11 = .ok (.invokespecial 112, 3) := by decide +kernel
theorem dX5_silence_14 : decode cX5_silence 14 = .ok (.areturn, 1) := by decide +kernel
theorem dX5_deedOf_0 : decode cX5_deedOf 0 = .ok (.new 15, 3) := by decide +kernel
theorem dX5_deedOf_3 : decode cX5_deedOf 3 = .ok (.dup, 1) := by decide +kernel
theorem dX5_deedOf_4 : decode cX5_deedOf 4 = .ok (.iconst 0, 1) := by decide +kernel
theorem dX5_deedOf_5 : decode cX5_deedOf 5 = .ok (.iload_n 0, 1) := by decide +kernel
theorem dX5_deedOf_6 : decode cX5_deedOf 6 = .ok (.iconst 0, 1) := by decide +kernel
theorem dX5_deedOf_7 : decode cX5_deedOf 7 = .ok (.anewarray 15, 3) := by decide +kernel
theorem dX5_deedOf_10 : decode cX5_deedOf 10 = .ok (.invokespecial 112, 3) := by decide +kernel
theorem dX5_deedOf_13 : decode cX5_deedOf 13 = .ok (.areturn, 1) := by decide +kernel
theorem dX5_two_0 : decode cX5_two 0 = .ok (.new 15, 3) := by decide +kernel
theorem dX5_two_3 : decode cX5_two 3 = .ok (.dup, 1) := by decide +kernel
theorem dX5_two_4 : decode cX5_two 4 = .ok (.iload_n 0, 1) := by decide +kernel
theorem dX5_two_5 : decode cX5_two 5 = .ok (.bipush (-3), 2) := by decide +kernel
theorem dX5_two_7 : decode cX5_two 7 = .ok (.iconst 2, 1) := by decide +kernel
theorem dX5_two_8 : decode cX5_two 8 = .ok (.anewarray 15, 3) := by decide +kernel
theorem dX5_two_11 : decode cX5_two 11 = .ok (.dup, 1) := by decide +kernel
theorem dX5_two_12 : decode cX5_two 12 = .ok (.iconst 0, 1) := by decide +kernel
theorem dX5_two_13 : decode cX5_two 13 = .ok (.aload_n 1, 1) := by decide +kernel
theorem dX5_two_14 : decode cX5_two 14 = .ok (.aastore, 1) := by decide +kernel
theorem dX5_two_15 : decode cX5_two 15 = .ok (.dup, 1) := by decide +kernel
theorem dX5_two_16 : decode cX5_two 16 = .ok (.iconst 1, 1) := by decide +kernel
theorem dX5_two_17 : decode cX5_two 17 = .ok (.aload_n 2, 1) := by decide +kernel
theorem dX5_two_18 : decode cX5_two 18 = .ok (.aastore, 1) := by decide +kernel
theorem dX5_two_19 : decode cX5_two 19 = .ok (.invokespecial 112, 3) := by decide +kernel
theorem dX5_two_22 : decode cX5_two 22 = .ok (.areturn, 1) := by decide +kernel
theorem dX5_order_0 : decode cX5_order 0 = .ok (.aload_n 0, 1) := by decide +kernel
theorem dX5_order_1 : decode cX5_order 1 = .ok (.getfield 109, 3) := by decide +kernel
theorem dX5_order_4 : decode cX5_order 4 = .ok (.aload_n 1, 1) := by decide +kernel
theorem dX5_order_5 : decode cX5_order 5 = .ok (.getfield 109, 3) := by decide +kernel
theorem dX5_order_8 : decode cX5_order 8 = .ok (.if_icmp .eq 15, 3) := by decide +kernel
theorem dX5_order_11 : decode cX5_order 11 = .ok (.aload_n 0, 1) := by decide +kernel
theorem dX5_order_12 : decode cX5_order 12 = .ok (.getfield 109, 3) := by decide +kernel
theorem dX5_order_15 : decode cX5_order 15 = .ok (.aload_n 1, 1) := by decide +kernel
theorem dX5_order_16 : decode cX5_order 16 = .ok (.getfield 109, 3) := by decide +kernel
theorem dX5_order_19 : decode cX5_order 19 = .ok (.invokestatic 209, 3) := by decide +kernel
theorem dX5_order_22 : decode cX5_order 22 = .ok (.ireturn, 1) := by decide +kernel
theorem dX5_order_23 : decode cX5_order 23 = .ok (.aload_n 0, 1) := by decide +kernel
theorem dX5_order_24 : decode cX5_order 24 = .ok (.getfield 115, 3) := by decide +kernel
theorem dX5_order_27 : decode cX5_order 27 = .ok (.aload_n 1, 1) := by decide +kernel
theorem dX5_order_28 : decode cX5_order 28 = .ok (.getfield 115, 3) := by decide +kernel
theorem dX5_order_31 : decode cX5_order 31 = .ok (.if_icmp .eq 15, 3) := by decide +kernel
theorem dX5_order_34 : decode cX5_order 34 = .ok (.aload_n 0, 1) := by decide +kernel
theorem dX5_order_35 : decode cX5_order 35 = .ok (.getfield 115, 3) := by decide +kernel
theorem dX5_order_38 : decode cX5_order 38 = .ok (.aload_n 1, 1) := by decide +kernel
theorem dX5_order_39 : decode cX5_order 39 = .ok (.getfield 115, 3) := by decide +kernel
theorem dX5_order_42 : decode cX5_order 42 = .ok (.invokestatic 209, 3) := by decide +kernel
theorem dX5_order_45 : decode cX5_order 45 = .ok (.ireturn, 1) := by decide +kernel
theorem dX5_order_46 : decode cX5_order 46 = .ok (.aload_n 0, 1) := by decide +kernel
theorem dX5_order_47 : decode cX5_order 47 = .ok (.getfield 106, 3) := by decide +kernel
theorem dX5_order_50 : decode cX5_order 50 = .ok (.arraylength, 1) := by decide +kernel
theorem dX5_order_51 : decode cX5_order 51 = .ok (.aload_n 1, 1) := by decide +kernel
theorem dX5_order_52 : decode cX5_order 52 = .ok (.getfield 106, 3) := by decide +kernel
theorem dX5_order_55 : decode cX5_order 55 = .ok (.arraylength, 1) := by decide +kernel
theorem dX5_order_56 : decode cX5_order 56 = .ok (.if_icmp .eq 17, 3) := by decide +kernel
theorem dX5_order_59 : decode cX5_order 59 = .ok (.aload_n 0, 1) := by decide +kernel
theorem dX5_order_60 : decode cX5_order 60 = .ok (.getfield 106, 3) := by decide +kernel
theorem dX5_order_63 : decode cX5_order 63 = .ok (.arraylength, 1) := by decide +kernel
theorem dX5_order_64 : decode cX5_order 64 = .ok (.aload_n 1, 1) := by decide +kernel
theorem dX5_order_65 : decode cX5_order 65 = .ok (.getfield 106, 3) := by decide +kernel
theorem dX5_order_68 : decode cX5_order 68 = .ok (.arraylength, 1) := by decide +kernel
theorem dX5_order_69 : decode cX5_order 69 = .ok (.invokestatic 209, 3) := by decide +kernel
theorem dX5_order_72 : decode cX5_order 72 = .ok (.ireturn, 1) := by decide +kernel
theorem dX5_order_73 : decode cX5_order 73 = .ok (.iload_n 2, 1) := by decide +kernel
theorem dX5_order_74 : decode cX5_order 74 = .ok (.bipush 40, 2) := by decide +kernel
theorem dX5_order_76 : decode cX5_order 76 = .ok (.if_icmp .le 5, 3) := by decide +kernel
theorem dX5_order_79 : decode cX5_order 79 = .ok (.iconst 0, 1) := by decide +kernel
theorem dX5_order_80 : decode cX5_order 80 = .ok (.ireturn, 1) := by decide +kernel
theorem dX5_order_81 : decode cX5_order 81 = .ok (.iconst 0, 1) := by decide +kernel
theorem dX5_order_82 : decode cX5_order 82 = .ok (.istore_n 3, 1) := by decide +kernel
theorem dX5_order_83 : decode cX5_order 83 = .ok (.iload_n 3, 1) := by decide +kernel
theorem dX5_order_84 : decode cX5_order 84 = .ok (.aload_n 0, 1) := by decide +kernel
theorem dX5_order_85 : decode cX5_order 85 = .ok (.getfield 106, 3) := by decide +kernel
theorem dX5_order_88 : decode cX5_order 88 = .ok (.arraylength, 1) := by decide +kernel
theorem dX5_order_89 : decode cX5_order 89 = .ok (.if_icmp .ge 46, 3) := by decide +kernel
theorem dX5_order_92 : decode cX5_order 92 = .ok (.iload_n 3, 1) := by decide +kernel
theorem dX5_order_93 : decode cX5_order 93 = .ok (.aload_n 1, 1) := by decide +kernel
theorem dX5_order_94 : decode cX5_order 94 = .ok (.getfield 106, 3) := by decide +kernel
theorem dX5_order_97 : decode cX5_order 97 = .ok (.arraylength, 1) := by decide +kernel
theorem dX5_order_98 : decode cX5_order 98 = .ok (.if_icmp .ge 37, 3) := by decide +kernel
theorem dX5_order_101 : decode cX5_order 101 = .ok (.aload_n 0, 1) := by decide +kernel
theorem dX5_order_102 : decode cX5_order 102 = .ok (.getfield 106, 3) := by decide +kernel
theorem dX5_order_105 : decode cX5_order 105 = .ok (.iload_n 3, 1) := by decide +kernel
theorem dX5_order_106 : decode cX5_order 106 = .ok (.aaload, 1) := by decide +kernel
theorem dX5_order_107 : decode cX5_order 107 = .ok (.aload_n 1, 1) := by decide +kernel
theorem dX5_order_108 : decode cX5_order 108 = .ok (.getfield 106, 3) := by decide +kernel
theorem dX5_order_111 : decode cX5_order 111 = .ok (.iload_n 3, 1) := by decide +kernel
theorem dX5_order_112 : decode cX5_order 112 = .ok (.aaload, 1) := by decide +kernel
theorem dX5_order_113 : decode cX5_order 113 = .ok (.iload_n 2, 1) := by decide +kernel
theorem dX5_order_114 : decode cX5_order 114 = .ok (.iconst 1, 1) := by decide +kernel
theorem dX5_order_115 : decode cX5_order 115 = .ok (.iadd, 1) := by decide +kernel
theorem dX5_order_116 : decode cX5_order 116 = .ok (.invokestatic 128, 3) := by decide +kernel
theorem dX5_order_119 : decode cX5_order 119 = .ok (.istore 4, 2) := by decide +kernel
theorem dX5_order_121 : decode cX5_order 121 = .ok (.iload 4, 2) := by decide +kernel
theorem dX5_order_123 : decode cX5_order 123 = .ok (.ifCond .eq 6, 3) := by decide +kernel
theorem dX5_order_126 : decode cX5_order 126 = .ok (.iload 4, 2) := by decide +kernel
theorem dX5_order_128 : decode cX5_order 128 = .ok (.ireturn, 1) := by decide +kernel
theorem dX5_order_129 : decode cX5_order 129 = .ok (.iinc 3 1, 3) := by decide +kernel
theorem dX5_order_132 : decode cX5_order 132 = .ok (.goto (-49), 3) := by decide +kernel
theorem dX5_order_135 : decode cX5_order 135 = .ok (.iconst 0, 1) := by decide +kernel
theorem dX5_order_136 : decode cX5_order 136 = .ok (.ireturn, 1) := by decide +kernel
theorem dX5_plainOf_0 : decode cX5_plainOf 0 = .ok (.aload_n 0, 1) := by decide +kernel
theorem dX5_plainOf_1 : decode cX5_plainOf 1 = .ok (.getfield 109, 3) := by decide +kernel
theorem dX5_plainOf_4 : decode cX5_plainOf 4 = .ok (.ifCond .ne 11, 3) := by decide +kernel
theorem dX5_plainOf_7 : decode cX5_plainOf 7 = .ok (.aload_n 0, 1) := by decide +kernel
theorem dX5_plainOf_8 : decode cX5_plainOf 8 = .ok (.getfield 115, 3) := by decide +kernel
theorem dX5_plainOf_11 : decode cX5_plainOf 11 = .ok (.invokestatic 91, 3) := by decide +kernel
theorem dX5_plainOf_14 : decode cX5_plainOf 14 = .ok (.areturn, 1) := by decide +kernel
theorem dX5_plainOf_15 : decode cX5_plainOf 15 = .ok (.aload_n 0, 1) := by decide +kernel
theorem dX5_plainOf_16 : decode cX5_plainOf 16 = .ok (.getfield 109, 3) := by decide +kernel
theorem dX5_plainOf_19 : decode cX5_plainOf 19 = .ok (.iconst 1, 1) := by decide +kernel
theorem dX5_plainOf_20 : decode cX5_plainOf 20 = .ok (.if_icmp .eq 9, 3) := by decide +kernel
theorem dX5_plainOf_23 : decode cX5_plainOf 23 = .ok (.iload_n 1, 1) := by decide +kernel
theorem dX5_plainOf_24 : decode cX5_plainOf 24 = .ok (.bipush 40, 2) := by decide +kernel
theorem dX5_plainOf_26 : decode cX5_plainOf 26 = .ok (.if_icmp .le 7, 3) := by decide +kernel
theorem dX5_plainOf_29 : decode cX5_plainOf 29 = .ok (.invokestatic 87, 3) := by decide +kernel
theorem dX5_plainOf_32 : decode cX5_plainOf 32 = .ok (.areturn, 1) := by decide +kernel
theorem dX5_plainOf_33 : decode cX5_plainOf 33 = .ok (.new 214, 3) := by decide +kernel
theorem dX5_plainOf_36 : decode cX5_plainOf 36 = .ok (.dup, 1) := by decide +kernel
theorem dX5_plainOf_37 : decode cX5_plainOf 37 = .ok (.invokespecial 216, 3) := by decide +kernel
theorem dX5_plainOf_40 : decode cX5_plainOf 40 = .ok (.astore_n 2, 1) := by decide +kernel
theorem dX5_plainOf_41 : decode cX5_plainOf 41 = .ok (.iconst 0, 1) := by decide +kernel
theorem dX5_plainOf_42 : decode cX5_plainOf 42 = .ok (.istore_n 3, 1) := by decide +kernel
theorem dX5_plainOf_43 : decode cX5_plainOf 43 = .ok (.iload_n 3, 1) := by decide +kernel
theorem dX5_plainOf_44 : decode cX5_plainOf 44 = .ok (.aload_n 0, 1) := by decide +kernel
theorem dX5_plainOf_45 : decode cX5_plainOf 45 = .ok (.getfield 106, 3) := by decide +kernel
theorem dX5_plainOf_48 : decode cX5_plainOf 48 = .ok (.arraylength, 1) := by decide +kernel
theorem dX5_plainOf_49 : decode cX5_plainOf 49 = .ok (.if_icmp .ge 29, 3) := by decide +kernel
theorem dX5_plainOf_52 : decode cX5_plainOf 52 = .ok (.aload_n 2, 1) := by decide +kernel
theorem dX5_plainOf_53 : decode cX5_plainOf 53 = .ok (.aload_n 0, 1) := by decide +kernel
theorem dX5_plainOf_54 : decode cX5_plainOf 54 = .ok (.getfield 109, 3) := by decide +kernel
theorem dX5_plainOf_57 : decode cX5_plainOf 57 = .ok (.aload_n 0, 1) := by decide +kernel
theorem dX5_plainOf_58 : decode cX5_plainOf 58 = .ok (.getfield 106, 3) := by decide +kernel
theorem dX5_plainOf_61 : decode cX5_plainOf 61 = .ok (.iload_n 3, 1) := by decide +kernel
theorem dX5_plainOf_62 : decode cX5_plainOf 62 = .ok (.aaload, 1) := by decide +kernel
theorem dX5_plainOf_63 : decode cX5_plainOf 63 = .ok (.iload_n 1, 1) := by decide +kernel
theorem dX5_plainOf_64 : decode cX5_plainOf 64 = .ok (.iconst 1, 1) := by decide +kernel
theorem dX5_plainOf_65 : decode cX5_plainOf 65 = .ok (.iadd, 1) := by decide +kernel
theorem dX5_plainOf_66 : decode cX5_plainOf 66 = .ok (.invokestatic 124, 3) := by decide +kernel
theorem dX5_plainOf_69 : decode cX5_plainOf 69 = .ok (.invokestatic 217, 3) := by decide +kernel
theorem dX5_plainOf_72 : decode cX5_plainOf 72 = .ok (.iinc 3 1, 3) := by decide +kernel
theorem dX5_plainOf_75 : decode cX5_plainOf 75 = .ok (.goto (-32), 3) := by decide +kernel
theorem dX5_plainOf_78 : decode cX5_plainOf 78 = .ok (.aload_n 2, 1) := by decide +kernel
theorem dX5_plainOf_79 : decode cX5_plainOf 79 = .ok (.invokevirtual 221, 3) := by decide +kernel
theorem dX5_plainOf_82 : decode cX5_plainOf 82 = .ok (.ifCond .ne 7, 3) := by decide +kernel
theorem dX5_plainOf_85 : decode cX5_plainOf 85 = .ok (.invokestatic 87, 3) := by decide +kernel
theorem dX5_plainOf_88 : decode cX5_plainOf 88 = .ok (.areturn, 1) := by decide +kernel
theorem dX5_plainOf_89 : decode cX5_plainOf 89 = .ok (.aload_n 2, 1) := by decide +kernel
theorem dX5_plainOf_90 : decode cX5_plainOf 90 = .ok (.invokevirtual 221, 3) := by decide +kernel
theorem dX5_plainOf_93 : decode cX5_plainOf 93 = .ok (.iconst 1, 1) := by decide +kernel
theorem dX5_plainOf_94 : decode cX5_plainOf 94 = .ok (.if_icmp .ne 12, 3) := by decide +kernel
theorem dX5_plainOf_97 : decode cX5_plainOf 97 = .ok (.aload_n 2, 1) := by decide +kernel
theorem dX5_plainOf_98 : decode cX5_plainOf 98 = .ok (.iconst 0, 1) := by decide +kernel
theorem dX5_plainOf_99 : decode cX5_plainOf 99 = .ok (.invokevirtual 223, 3) := by decide +kernel
theorem dX5_plainOf_102 : decode cX5_plainOf 102 = .ok (.checkcast 15, 3) := by decide +kernel
theorem dX5_plainOf_105 : decode cX5_plainOf 105 = .ok (.areturn, 1) := by decide +kernel
theorem dX5_plainOf_106 : decode cX5_plainOf 106 = .ok (.aload_n 2, 1) := by decide +kernel
theorem dX5_plainOf_107 : decode cX5_plainOf 107 = .ok (.invokevirtual 221, 3) := by decide +kernel
theorem dX5_plainOf_110 : decode cX5_plainOf 110 = .ok (.anewarray 15, 3) := by decide +kernel
theorem dX5_plainOf_113 : decode cX5_plainOf 113 = .ok (.astore_n 3, 1) := by decide +kernel
theorem dX5_plainOf_114 : decode cX5_plainOf 114 = .ok (.iconst 0, 1) := by decide +kernel
theorem dX5_plainOf_115 : decode cX5_plainOf 115 = .ok (.istore 4, 2) := by decide +kernel
theorem dX5_plainOf_117 : decode cX5_plainOf 117 = .ok (.iload 4, 2) := by decide +kernel
theorem dX5_plainOf_119 : decode cX5_plainOf 119 = .ok (.aload_n 3, 1) := by decide +kernel
theorem dX5_plainOf_120 : decode cX5_plainOf 120 = .ok (.arraylength, 1) := by decide +kernel
theorem dX5_plainOf_121 : decode cX5_plainOf 121 = .ok (.if_icmp .ge 22, 3) := by decide +kernel
theorem dX5_plainOf_124 : decode cX5_plainOf 124 = .ok (.aload_n 3, 1) := by decide +kernel
theorem dX5_plainOf_125 : decode cX5_plainOf 125 = .ok (.iload 4, 2) := by decide +kernel
theorem dX5_plainOf_127 : decode cX5_plainOf 127 = .ok (.aload_n 2, 1) := by decide +kernel
theorem dX5_plainOf_128 : decode cX5_plainOf 128 = .ok (.iload 4, 2) := by decide +kernel
theorem dX5_plainOf_130 : decode cX5_plainOf 130 = .ok (.invokevirtual 223, 3) := by decide +kernel
theorem dX5_plainOf_133 : decode cX5_plainOf 133 = .ok (.checkcast 15, 3) := by decide +kernel
theorem dX5_plainOf_136 : decode cX5_plainOf 136 = .ok (.aastore, 1) := by decide +kernel
theorem dX5_plainOf_137 : decode cX5_plainOf 137 = .ok (.iinc 4 1, 3) := by decide +kernel
theorem dX5_plainOf_140 : decode cX5_plainOf 140 = .ok (.goto (-23), 3) := by decide +kernel
theorem dX5_plainOf_143 : decode cX5_plainOf 143 = .ok (.new 15, 3) := by decide +kernel
theorem dX5_plainOf_146 : decode cX5_plainOf 146 = .ok (.dup, 1) := by decide +kernel
theorem dX5_plainOf_147 : decode cX5_plainOf 147 = .ok (.aload_n 0, 1) := by decide +kernel
theorem dX5_plainOf_148 : decode cX5_plainOf 148 = .ok (.getfield 109, 3) := by decide +kernel
theorem dX5_plainOf_151 : decode cX5_plainOf 151 = .ok (.bipush (-3), 2) := by decide +kernel
theorem dX5_plainOf_153 : decode cX5_plainOf 153 = .ok (.aload_n 3, 1) := by decide +kernel
theorem dX5_plainOf_154 : decode cX5_plainOf 154 = .ok (.invokespecial 112, 3) := by decide +kernel
theorem dX5_plainOf_157 : decode cX5_plainOf 157 = .ok (.areturn, 1) := by decide +kernel
theorem dX5_takeIn_0 : decode cX5_takeIn 0 = .ok (.aload_n 2, 1) := by decide +kernel
theorem dX5_takeIn_1 : decode cX5_takeIn 1 = .ok (.getfield 109, 3) := by decide +kernel
theorem dX5_takeIn_4 : decode cX5_takeIn 4 = .ok (.iconst 1, 1) := by decide +kernel
theorem dX5_takeIn_5 : decode cX5_takeIn 5 = .ok (.if_icmp .ne 14, 3) := by decide +kernel
theorem dX5_takeIn_8 : decode cX5_takeIn 8 = .ok (.iload_n 1, 1) := by decide +kernel
theorem dX5_takeIn_9 : decode cX5_takeIn 9 = .ok (.iconst 2, 1) := by decide +kernel
theorem dX5_takeIn_10 : decode cX5_takeIn 10 = .ok (.if_icmp .eq 8, 3) := by decide +kernel
theorem dX5_takeIn_13 : decode cX5_takeIn 13 = .ok (.iload_n 1, 1) := by decide +kernel
theorem dX5_takeIn_14 : decode cX5_takeIn 14 = .ok (.iconst 4, 1) := by decide +kernel
theorem dX5_takeIn_15 : decode cX5_takeIn 15 = .ok (.if_icmp .ne 4, 3) := by decide +kernel
theorem dX5_takeIn_18 : decode cX5_takeIn 18 = .ok (.return_, 1) := by decide +kernel
theorem dX5_takeIn_19 : decode cX5_takeIn 19 = .ok (.aload_n 2, 1) := by decide +kernel
theorem dX5_takeIn_20 : decode cX5_takeIn 20 = .ok (.getfield 109, 3) := by decide +kernel
theorem dX5_takeIn_23 : decode cX5_takeIn 23 = .ok (.iload_n 1, 1) := by decide +kernel
theorem dX5_takeIn_24 : decode cX5_takeIn 24 = .ok (.if_icmp .ne 8, 3) := by decide +kernel
theorem dX5_takeIn_27 : decode cX5_takeIn 27 = .ok (.iload_n 1, 1) := by decide +kernel
theorem dX5_takeIn_28 : decode cX5_takeIn 28 = .ok (.iconst 5, 1) := by decide +kernel
theorem dX5_takeIn_29 : decode cX5_takeIn 29 = .ok (.if_icmp .ne 10, 3) := by decide +kernel
theorem dX5_takeIn_32 : decode cX5_takeIn 32 = .ok (.aload_n 0, 1) := by decide +kernel
theorem dX5_takeIn_33 : decode cX5_takeIn 33 = .ok (.iload_n 1, 1) := by decide +kernel
theorem dX5_takeIn_34 : decode cX5_takeIn 34 = .ok (.aload_n 2, 1) := by decide +kernel
theorem dX5_takeIn_35 : decode cX5_takeIn 35 = .ok (.invokestatic 227, 3) := by decide +kernel
theorem dX5_takeIn_38 : decode cX5_takeIn 38 = .ok (.return_, 1) := by decide +kernel
theorem dX5_takeIn_39 : decode cX5_takeIn 39 = .ok (.iconst 0, 1) := by decide +kernel
theorem dX5_takeIn_40 : decode cX5_takeIn 40 = .ok (.istore_n 3, 1) := by decide +kernel
theorem dX5_takeIn_41 : decode cX5_takeIn 41 = .ok (.iload_n 3, 1) := by decide +kernel
theorem dX5_takeIn_42 : decode cX5_takeIn 42 = .ok (.aload_n 2, 1) := by decide +kernel
theorem dX5_takeIn_43 : decode cX5_takeIn 43 = .ok (.getfield 106, 3) := by decide +kernel
theorem dX5_takeIn_46 : decode cX5_takeIn 46 = .ok (.arraylength, 1) := by decide +kernel
theorem dX5_takeIn_47 : decode cX5_takeIn 47 = .ok (.if_icmp .ge 20, 3) := by decide +kernel
theorem dX5_takeIn_50 : decode cX5_takeIn 50 = .ok (.aload_n 0, 1) := by decide +kernel
theorem dX5_takeIn_51 : decode cX5_takeIn 51 = .ok (.iload_n 1, 1) := by decide +kernel
theorem dX5_takeIn_52 : decode cX5_takeIn 52 = .ok (.aload_n 2, 1) := by decide +kernel
theorem dX5_takeIn_53 : decode cX5_takeIn 53 = .ok (.getfield 106, 3) := by decide +kernel
theorem dX5_takeIn_56 : decode cX5_takeIn 56 = .ok (.iload_n 3, 1) := by decide +kernel
theorem dX5_takeIn_57 : decode cX5_takeIn 57 = .ok (.aaload, 1) := by decide +kernel
theorem dX5_takeIn_58 : decode cX5_takeIn 58 = .ok (.invokestatic 227, 3) := by decide +kernel
theorem dX5_takeIn_61 : decode cX5_takeIn 61 = .ok (.iinc 3 1, 3) := by decide +kernel
theorem dX5_takeIn_64 : decode cX5_takeIn 64 = .ok (.goto (-23), 3) := by decide +kernel
theorem dX5_takeIn_67 : decode cX5_takeIn 67 = .ok (.return_, 1) := by decide +kernel
theorem dX5_place_0 : decode cX5_place 0 = .ok (.iload_n 1, 1) := by decide +kernel
theorem dX5_place_1 : decode cX5_place 1 = .ok (.iconst 2, 1) := by decide +kernel
theorem dX5_place_2 : decode cX5_place 2 = .ok (.if_icmp .ne 10, 3) := by decide +kernel
theorem dX5_place_5 : decode cX5_place 5 = .ok (.aload_n 0, 1) := by decide +kernel
theorem dX5_place_6 : decode cX5_place 6 = .ok (.invokevirtual 221, 3) := by decide +kernel
theorem dX5_place_9 : decode cX5_place 9 = .ok (.goto 20, 3) := by decide +kernel
theorem dX5_place_12 : decode cX5_place 12 = .ok (.iload_n 1, 1) := by decide +kernel
theorem dX5_place_13 : decode cX5_place 13 = .ok (.iconst 5, 1) := by decide +kernel
theorem dX5_place_14 : decode cX5_place 14 = .ok (.if_icmp .ne 14, 3) := by decide +kernel
theorem dX5_place_17 : decode cX5_place 17 = .ok (.iconst 1, 1) := by decide +kernel
theorem dX5_place_18 : decode cX5_place 18 = .ok (.aload_n 0, 1) := by decide +kernel
theorem dX5_place_19 : decode cX5_place 19 = .ok (.invokevirtual 221, 3) := by decide +kernel
theorem dX5_place_22 : decode cX5_place 22 = .ok (.invokestatic 230, 3) := by decide +kernel
theorem dX5_place_25 : decode cX5_place 25 = .ok (.goto 4, 3) := by decide +kernel
theorem dX5_place_28 : decode cX5_place 28 = .ok (.iconst 0, 1) := by decide +kernel
theorem dX5_place_29 : decode cX5_place 29 = .ok (.istore_n 3, 1) := by decide +kernel
theorem dX5_place_30 : decode cX5_place 30 = .ok (.iload_n 3, 1) := by decide +kernel
theorem dX5_place_31 : decode cX5_place 31 = .ok (.aload_n 0, 1) := by decide +kernel
theorem dX5_place_32 : decode cX5_place 32 = .ok (.invokevirtual 221, 3) := by decide +kernel
theorem dX5_place_35 : decode cX5_place 35 = .ok (.if_icmp .ge 25, 3) := by decide +kernel
theorem dX5_place_38 : decode cX5_place 38 = .ok (.aload_n 0, 1) := by decide +kernel
theorem dX5_place_39 : decode cX5_place 39 = .ok (.iload_n 3, 1) := by decide +kernel
theorem dX5_place_40 : decode cX5_place 40 = .ok (.invokevirtual 223, 3) := by decide +kernel
theorem dX5_place_43 : decode cX5_place 43 = .ok (.checkcast 15, 3) := by decide +kernel
theorem dX5_place_46 : decode cX5_place 46 = .ok (.aload_n 2, 1) := by decide +kernel
theorem dX5_place_47 : decode cX5_place 47 = .ok (.iconst 0, 1) := by decide +kernel
theorem dX5_place_48 : decode cX5_place 48 = .ok (.invokestatic 128, 3) := by decide +kernel
theorem dX5_place_51 : decode cX5_place 51 = .ok (.ifCond .ge 9, 3) := by decide +kernel
theorem dX5_place_54 : decode cX5_place 54 = .ok (.iinc 3 1, 3) := by decide +kernel
theorem dX5_place_57 : decode cX5_place 57 = .ok (.goto (-27), 3) := by decide +kernel
theorem dX5_place_60 : decode cX5_place 60 = .ok (.iload_n 1, 1) := by decide +kernel
theorem dX5_place_61 : decode cX5_place 61 = .ok (.iconst 3, 1) := by decide +kernel
theorem dX5_place_62 : decode cX5_place 62 = .ok (.if_icmp .ne 31, 3) := by decide +kernel
theorem dX5_place_65 : decode cX5_place 65 = .ok (.iload_n 3, 1) := by decide +kernel
theorem dX5_place_66 : decode cX5_place 66 = .ok (.aload_n 0, 1) := by decide +kernel
theorem dX5_place_67 : decode cX5_place 67 = .ok (.invokevirtual 221, 3) := by decide +kernel
theorem dX5_place_70 : decode cX5_place 70 = .ok (.if_icmp .ge 23, 3) := by decide +kernel
theorem dX5_place_73 : decode cX5_place 73 = .ok (.aload_n 0, 1) := by decide +kernel
theorem dX5_place_74 : decode cX5_place 74 = .ok (.iload_n 3, 1) := by decide +kernel
theorem dX5_place_75 : decode cX5_place 75 = .ok (.invokevirtual 223, 3) := by decide +kernel
theorem dX5_place_78 : decode cX5_place 78 = .ok (.checkcast 15, 3) := by decide +kernel
theorem dX5_place_81 : decode cX5_place 81 = .ok (.aload_n 2, 1) := by decide +kernel
theorem dX5_place_82 : decode cX5_place 82 = .ok (.iconst 0, 1) := by decide +kernel
theorem dX5_place_83 : decode cX5_place 83 = .ok (.invokestatic 128, 3) := by decide +kernel
theorem dX5_place_86 : decode cX5_place 86 = .ok (.ifCond .ne 7, 3) := by decide +kernel
theorem dX5_place_89 : decode cX5_place 89 = .ok (.iconst 1, 1) := by decide +kernel
theorem dX5_place_90 : decode cX5_place 90 = .ok (.goto 4, 3) := by decide +kernel
theorem dX5_place_93 : decode cX5_place 93 = .ok (.iconst 0, 1) := by decide +kernel
theorem dX5_place_94 : decode cX5_place 94 = .ok (.istore 4, 2) := by decide +kernel
theorem dX5_place_96 : decode cX5_place 96 = .ok (.iload 4, 2) := by decide +kernel
theorem dX5_place_98 : decode cX5_place 98 = .ok (.ifCond .ne 9, 3) := by decide +kernel
theorem dX5_place_101 : decode cX5_place 101 = .ok (.aload_n 0, 1) := by decide +kernel
theorem dX5_place_102 : decode cX5_place 102 = .ok (.iload_n 3, 1) := by decide +kernel
theorem dX5_place_103 : decode cX5_place 103 = .ok (.aload_n 2, 1) := by decide +kernel
theorem dX5_place_104 : decode cX5_place 104 = .ok (.invokevirtual 235, 3) := by decide +kernel
theorem dX5_place_107 : decode cX5_place 107 = .ok (.return_, 1) := by decide +kernel
theorem dX5_found_0 : decode cX5_found 0 = .ok (.iload_n 1, 1) := by decide +kernel
theorem dX5_found_1 : decode cX5_found 1 = .ok (.ifCond .lt 9, 3) := by decide +kernel
theorem dX5_found_4 : decode cX5_found 4 = .ok (.iload_n 1, 1) := by decide +kernel
theorem dX5_found_5 : decode cX5_found 5 = .ok (.aload_n 0, 1) := by decide +kernel
theorem dX5_found_6 : decode cX5_found 6 = .ok (.arraylength, 1) := by decide +kernel
theorem dX5_found_7 : decode cX5_found 7 = .ok (.if_icmp .lt 7, 3) := by decide +kernel
theorem dX5_found_10 : decode cX5_found 10 = .ok (.invokestatic 87, 3) := by decide +kernel
theorem dX5_found_13 : decode cX5_found 13 = .ok (.areturn, 1) := by decide +kernel
theorem dX5_found_14 : decode cX5_found 14 = .ok (.aload_n 0, 1) := by decide +kernel
theorem dX5_found_15 : decode cX5_found 15 = .ok (.iload_n 1, 1) := by decide +kernel
theorem dX5_found_16 : decode cX5_found 16 = .ok (.aaload, 1) := by decide +kernel
theorem dX5_found_17 : decode cX5_found 17 = .ok (.astore_n 2, 1) := by decide +kernel
theorem dX5_found_18 : decode cX5_found 18 = .ok (.aload_n 2, 1) := by decide +kernel
theorem dX5_found_19 : decode cX5_found 19 = .ok (.getfield 132, 3) := by decide +kernel
theorem dX5_found_22 : decode cX5_found 22 = .ok (.istore_n 3, 1) := by decide +kernel
theorem dX5_found_23 : decode cX5_found 23 = .ok (.aload_n 2, 1) := by decide +kernel
theorem dX5_found_24 : decode cX5_found 24 = .ok (.invokevirtual 239, 3) := by decide +kernel
theorem dX5_found_27 : decode cX5_found 27 = .ok (.aload_n 2, 1) := by decide +kernel
theorem dX5_found_28 : decode cX5_found 28 = .ok (.getfield 132, 3) := by decide +kernel
theorem dX5_found_31 : decode cX5_found 31 = .ok (.ifCond .ne 7, 3) := by decide +kernel
theorem dX5_found_34 : decode cX5_found 34 = .ok (.invokestatic 87, 3) := by decide +kernel
theorem dX5_found_37 : decode cX5_found 37 = .ok (.areturn, 1) := by decide +kernel
theorem dX5_found_38 : decode cX5_found 38 = .ok (.aload_n 0, 1) := by decide +kernel
theorem dX5_found_39 : decode cX5_found 39 = .ok (.iload_n 1, 1) := by decide +kernel
theorem dX5_found_40 : decode cX5_found 40 = .ok (.invokestatic 242, 3) := by decide +kernel
theorem dX5_found_43 : decode cX5_found 43 = .ok (.astore 4, 2) := by decide +kernel
theorem dX5_found_45 : decode cX5_found 45 = .ok (.aload_n 2, 1) := by decide +kernel
theorem dX5_found_46 : decode cX5_found 46 = .ok (.getfield 132, 3) := by decide +kernel
theorem dX5_found_49 : decode cX5_found 49 = .ok (.iload_n 3, 1) := by decide +kernel
theorem dX5_found_50 : decode cX5_found 50 = .ok (.if_icmp .ge 15, 3) := by decide +kernel
theorem dX5_found_53 : decode cX5_found 53 = .ok (.iconst 3, 1) := by decide +kernel
theorem dX5_found_54 : decode cX5_found 54 = .ok (.invokestatic 87, 3) := by decide +kernel
theorem dX5_found_57 : decode cX5_found 57 = .ok (.aload 4, 2) := by decide +kernel
theorem dX5_found_59 : decode cX5_found 59 = .ok (.invokestatic 102, 3) := by decide +kernel
theorem dX5_found_62 : decode cX5_found 62 = .ok (.goto 5, 3) := by decide +kernel
theorem dX5_found_65 : decode cX5_found 65 = .ok (.aload 4, 2) := by decide +kernel
theorem dX5_found_67 : decode cX5_found 67 = .ok (.areturn, 1) := by decide +kernel
theorem dX5_foundOfFull_0 : decode cX5_foundOfFull 0 = .ok (.iload_n 1, 1) := by decide +kernel
theorem dX5_foundOfFull_1 : decode cX5_foundOfFull 1 = .ok (.ifCond .lt 9, 3) := by decide +kernel
theorem dX5_foundOfFull_4 : decode cX5_foundOfFull 4 = .ok (.iload_n 1, 1) := by decide +kernel
theorem dX5_foundOfFull_5 : decode cX5_foundOfFull 5 = .ok (.aload_n 0, 1) := by decide +kernel
theorem dX5_foundOfFull_6 : decode cX5_foundOfFull 6 = .ok (.arraylength, 1) := by decide +kernel
theorem dX5_foundOfFull_7 : decode cX5_foundOfFull 7 = .ok (.if_icmp .lt 7, 3) := by decide +kernel
theorem dX5_foundOfFull_10 : decode cX5_foundOfFull 10 = .ok (.invokestatic 87, 3) := by decide +kernel
theorem dX5_foundOfFull_13 : decode cX5_foundOfFull 13 = .ok (.areturn, 1) := by decide +kernel
theorem dX5_foundOfFull_14 : decode cX5_foundOfFull 14 = .ok (.aload_n 0, 1) := by decide +kernel
theorem dX5_foundOfFull_15 : decode cX5_foundOfFull 15 = .ok (.iload_n 1, 1) := by decide +kernel
theorem dX5_foundOfFull_16 : decode cX5_foundOfFull 16 = .ok (.aaload, 1) := by decide +kernel
theorem dX5_foundOfFull_17 : decode cX5_foundOfFull 17 = .ok (.astore_n 2, 1) := by decide +kernel
theorem dX5_foundOfFull_18 : decode cX5_foundOfFull 18 = .ok (.aload_n 2, 1) := by decide +kernel
theorem dX5_foundOfFull_19 : decode cX5_foundOfFull 19 = .ok (.invokevirtual 245, 3) := by decide +kernel
theorem dX5_foundOfFull_22 : decode cX5_foundOfFull 22 = .ok (.aload_n 2, 1) := by decide +kernel
theorem dX5_foundOfFull_23 : decode cX5_foundOfFull 23 = .ok (.getfield 248, 3) := by decide +kernel
theorem dX5_foundOfFull_26 : decode cX5_foundOfFull 26 = .ok (.invokestatic 251, 3) := by decide +kernel
theorem dX5_foundOfFull_29 : decode cX5_foundOfFull 29 = .ok (.iconst 1, 1) := by decide +kernel
theorem dX5_foundOfFull_30 : decode cX5_foundOfFull 30 = .ok (.if_icmp .ne 8, 3) := by decide +kernel
theorem dX5_foundOfFull_33 : decode cX5_foundOfFull 33 = .ok (.aload_n 2, 1) := by decide +kernel
theorem dX5_foundOfFull_34 : decode cX5_foundOfFull 34 = .ok (.invokestatic 254, 3) := by decide +kernel
theorem dX5_foundOfFull_37 : decode cX5_foundOfFull 37 = .ok (.areturn, 1) := by decide +kernel
theorem dX5_foundOfFull_38 : decode cX5_foundOfFull 38 = .ok (.aload_n 2, 1) := by decide +kernel
theorem dX5_foundOfFull_39 : decode cX5_foundOfFull 39 = .ok (.invokevirtual 258, 3) := by decide +kernel
theorem dX5_foundOfFull_42 : decode cX5_foundOfFull 42 = .ok (.istore_n 3, 1) := by decide +kernel
theorem dX5_foundOfFull_43 : decode cX5_foundOfFull 43 = .ok (.iload_n 3, 1) := by decide +kernel
theorem dX5_foundOfFull_44 : decode cX5_foundOfFull 44 = .ok (.bipush (-3), 2) := by decide +kernel
theorem dX5_foundOfFull_46 : decode cX5_foundOfFull 46 = .ok (.if_icmp .eq 11, 3) := by decide +kernel
theorem dX5_foundOfFull_49 : decode cX5_foundOfFull 49 = .ok (.iload_n 1, 1) := by decide +kernel
theorem dX5_foundOfFull_50 : decode cX5_foundOfFull 50 = .ok (.iconst 1, 1) := by decide +kernel
theorem dX5_foundOfFull_51 : decode cX5_foundOfFull 51 = .ok (.iadd, 1) := by decide +kernel
theorem dX5_foundOfFull_52 : decode cX5_foundOfFull 52 = .ok (.aload_n 0, 1) := by decide +kernel
theorem dX5_foundOfFull_53 : decode cX5_foundOfFull 53 = .ok (.arraylength, 1) := by decide +kernel
theorem dX5_foundOfFull_54 : decode cX5_foundOfFull 54 = .ok (.if_icmp .lt 11, 3) := by decide +kernel
theorem dX5_foundOfFull_57 : decode cX5_foundOfFull 57 = .ok (.aload_n 2, 1) := by decide +kernel
theorem dX5_foundOfFull_58 : decode cX5_foundOfFull 58 = .ok (.getfield 248, 3) := by decide +kernel
theorem dX5_foundOfFull_61 : decode cX5_foundOfFull 61 = .ok (.invokestatic 261, 3) := by decide +kernel
theorem dX5_foundOfFull_64 : decode cX5_foundOfFull 64 = .ok (.areturn, 1) := by decide +kernel
theorem dX5_foundOfFull_65 : decode cX5_foundOfFull 65 = .ok (.aload_n 2, 1) := by decide +kernel
theorem dX5_foundOfFull_66 : decode cX5_foundOfFull 66 = .ok (.getfield 264, 3) := by decide +kernel
theorem dX5_foundOfFull_69 : decode cX5_foundOfFull 69 = .ok (.anewarray 15, 3) := by decide +kernel
theorem dX5_foundOfFull_72 : decode cX5_foundOfFull 72 = .ok (.astore 4, 2) := by decide +kernel
theorem dX5_foundOfFull_74 : decode cX5_foundOfFull 74 = .ok (.iconst 0, 1) := by decide +kernel
theorem dX5_foundOfFull_75 : decode cX5_foundOfFull 75 = .ok (.istore 5, 2) := by decide +kernel
theorem dX5_foundOfFull_77 : decode cX5_foundOfFull 77 = .ok (.iload 5, 2) := by decide +kernel
theorem dX5_foundOfFull_79 : decode cX5_foundOfFull 79 = .ok (.aload 4, 2) := by decide +kernel
theorem dX5_foundOfFull_81 : decode cX5_foundOfFull 81 = .ok (.arraylength, 1) := by decide +kernel
theorem dX5_foundOfFull_82 : decode cX5_foundOfFull 82 = .ok (.if_icmp .ge 38, 3) := by decide +kernel
theorem dX5_foundOfFull_85 : decode cX5_foundOfFull 85 = .ok (.aload_n 0, 1) := by decide +kernel
theorem dX5_foundOfFull_86 : decode cX5_foundOfFull 86 = .ok (.iload_n 1, 1) := by decide +kernel
theorem dX5_foundOfFull_87 : decode cX5_foundOfFull 87 = .ok (.iconst 1, 1) := by decide +kernel
theorem dX5_foundOfFull_88 : decode cX5_foundOfFull 88 = .ok (.iadd, 1) := by decide +kernel
theorem dX5_foundOfFull_89 : decode cX5_foundOfFull 89 = .ok (.aaload, 1) := by decide +kernel
theorem dX5_foundOfFull_90 : decode cX5_foundOfFull 90 = .ok (.aload_n 2, 1) := by decide +kernel
theorem dX5_foundOfFull_91 : decode cX5_foundOfFull 91 = .ok (.aload_n 2, 1) := by decide +kernel
theorem dX5_foundOfFull_92 : decode cX5_foundOfFull 92 = .ok (.getfield 267, 3) := by decide +kernel
theorem dX5_foundOfFull_95 : decode cX5_foundOfFull 95 = .ok (.iload 5, 2) := by decide +kernel
theorem dX5_foundOfFull_97 : decode cX5_foundOfFull 97 = .ok (.iaload, 1) := by decide +kernel
theorem dX5_foundOfFull_98 : decode cX5_foundOfFull 98 = .ok (.iload_n 3, 1) := by decide +kernel
theorem dX5_foundOfFull_99 : decode cX5_foundOfFull 99 = .ok (.invokevirtual 269, 3) := by decide +kernel
theorem dX5_foundOfFull_102 : decode cX5_foundOfFull 102 = .ok (.aload 4, 2) := by decide +kernel
theorem dX5_foundOfFull_104 : decode cX5_foundOfFull 104 = .ok (.iload 5, 2) := by decide +kernel
theorem dX5_foundOfFull_106 : decode cX5_foundOfFull 106 = .ok (.aload_n 0, 1) := by decide +kernel
theorem dX5_foundOfFull_107 : decode cX5_foundOfFull 107 = .ok (.iload_n 1, 1) := by decide +kernel
theorem dX5_foundOfFull_108 : decode cX5_foundOfFull 108 = .ok (.iconst 1, 1) := by decide +kernel
theorem dX5_foundOfFull_109 : decode cX5_foundOfFull 109 = .ok (.iadd, 1) := by decide +kernel
theorem dX5_foundOfFull_110 : decode cX5_foundOfFull 110 = .ok (.invokestatic 142, 3) := by decide +kernel
theorem dX5_foundOfFull_113 : decode cX5_foundOfFull 113 = .ok (.aastore, 1) := by decide +kernel
theorem dX5_foundOfFull_114 : decode cX5_foundOfFull 114 = .ok (.iinc 5 1, 3) := by decide +kernel
theorem dX5_foundOfFull_117 : decode cX5_foundOfFull 117 = .ok (.goto (-40), 3) := by decide +kernel
theorem dX5_foundOfFull_120 : decode cX5_foundOfFull 120 = .ok (.new 15, 3) := by decide +kernel
theorem dX5_foundOfFull_123 : decode cX5_foundOfFull 123 = .ok (.dup, 1) := by decide +kernel
theorem dX5_foundOfFull_124 : decode cX5_foundOfFull 124 = .ok (.iload_n 3, 1) := by decide +kernel
theorem dX5_foundOfFull_125 : decode cX5_foundOfFull 125 = .ok (.bipush (-3), 2) := by decide +kernel
theorem dX5_foundOfFull_127 : decode cX5_foundOfFull 127 = .ok (.aload 4, 2) := by decide +kernel
theorem dX5_foundOfFull_129 : decode cX5_foundOfFull 129 = .ok (.invokespecial 112, 3) := by decide +kernel
theorem dX5_foundOfFull_132 : decode cX5_foundOfFull 132 = .ok (.areturn, 1) := by decide +kernel
theorem dX5_foundOfOneName_0 : decode cX5_foundOfOneName 0 = .ok (.aload_n 0, 1) := by decide +kernel
theorem dX5_foundOfOneName_1 : decode cX5_foundOfOneName 1 = .ok (.getfield 273, 3) := by decide +kernel
theorem dX5_foundOfOneName_4 : decode cX5_foundOfOneName 4 = .ok (.iconst 0, 1) := by decide +kernel
theorem dX5_foundOfOneName_5 : decode cX5_foundOfOneName 5 = .ok (.iaload, 1) := by decide +kernel
theorem dX5_foundOfOneName_6 : decode cX5_foundOfOneName 6 = .ok (.iconst 0, 1) := by decide +kernel
theorem dX5_foundOfOneName_7 : decode cX5_foundOfOneName 7 = .ok (.invokestatic 276, 3) := by decide +kernel
theorem dX5_foundOfOneName_10 : decode cX5_foundOfOneName 10 = .ok (.invokestatic 91, 3) := by decide +kernel
theorem dX5_foundOfOneName_13 : decode cX5_foundOfOneName 13 = .ok (.astore_n 1, 1) := by decide +kernel
theorem dX5_foundOfOneName_14 : decode cX5_foundOfOneName 14 = .ok (.aload_n 0, 1) := by decide +kernel
theorem dX5_foundOfOneName_15 : decode cX5_foundOfOneName 15 = .ok (.invokevirtual 279, 3) := by decide +kernel
theorem dX5_foundOfOneName_18 : decode cX5_foundOfOneName 18 = .ok (.ifCond .eq 14, 3) := by decide +kernel
theorem dX5_foundOfOneName_21 : decode cX5_foundOfOneName 21 = .ok (.iconst 5, 1) := by decide +kernel
theorem dX5_foundOfOneName_22 : decode cX5_foundOfOneName 22 = .ok (.aload_n 1, 1) := by decide +kernel
theorem dX5_foundOfOneName_23 : decode cX5_foundOfOneName 23 = .ok (.invokestatic 87, 3) := by decide +kernel
theorem dX5_foundOfOneName_26 : decode cX5_foundOfOneName 26 = .ok (.invokestatic 102, 3) := by decide +kernel
theorem dX5_foundOfOneName_29 : decode cX5_foundOfOneName 29 = .ok (.goto 4, 3) := by decide +kernel
theorem dX5_foundOfOneName_32 : decode cX5_foundOfOneName 32 = .ok (.aload_n 1, 1) := by decide +kernel
theorem dX5_foundOfOneName_33 : decode cX5_foundOfOneName 33 = .ok (.areturn, 1) := by decide +kernel
theorem dX5_flower_0 : decode cX5_flower 0 = .ok (.iload_n 0, 1) := by decide +kernel
theorem dX5_flower_1 : decode cX5_flower 1 = .ok (.invokestatic 251, 3) := by decide +kernel
theorem dX5_flower_4 : decode cX5_flower 4 = .ok (.anewarray 15, 3) := by decide +kernel
theorem dX5_flower_7 : decode cX5_flower 7 = .ok (.astore_n 1, 1) := by decide +kernel
theorem dX5_flower_8 : decode cX5_flower 8 = .ok (.iconst 0, 1) := by decide +kernel
theorem dX5_flower_9 : decode cX5_flower 9 = .ok (.istore_n 2, 1) := by decide +kernel
theorem dX5_flower_10 : decode cX5_flower 10 = .ok (.iconst 0, 1) := by decide +kernel
theorem dX5_flower_11 : decode cX5_flower 11 = .ok (.istore_n 3, 1) := by decide +kernel
theorem dX5_flower_12 : decode cX5_flower 12 = .ok (.iload_n 3, 1) := by decide +kernel
theorem dX5_flower_13 : decode cX5_flower 13 = .ok (.bipush 12, 2) := by decide +kernel
theorem dX5_flower_15 : decode cX5_flower 15 = .ok (.if_icmp .ge 36, 3) := by decide +kernel
theorem dX5_flower_18 : decode cX5_flower 18 = .ok (.iload_n 0, 1) := by decide +kernel
theorem dX5_flower_19 : decode cX5_flower 19 = .ok (.iconst 1, 1) := by decide +kernel
theorem dX5_flower_20 : decode cX5_flower 20 = .ok (.iload_n 3, 1) := by decide +kernel
theorem dX5_flower_21 : decode cX5_flower 21 = .ok (.ishl, 1) := by decide +kernel
theorem dX5_flower_22 : decode cX5_flower 22 = .ok (.iand, 1) := by decide +kernel
theorem dX5_flower_23 : decode cX5_flower 23 = .ok (.ifCond .eq 22, 3) := by decide +kernel
theorem dX5_flower_26 : decode cX5_flower 26 = .ok (.iload_n 2, 1) := by decide +kernel
theorem dX5_flower_27 : decode cX5_flower 27 = .ok (.aload_n 1, 1) := by decide +kernel
theorem dX5_flower_28 : decode cX5_flower 28 = .ok (.arraylength, 1) := by decide +kernel
theorem dX5_flower_29 : decode cX5_flower 29 = .ok (.if_icmp .lt 6, 3) := by decide +kernel
theorem dX5_flower_32 : decode cX5_flower 32 = .ok (.goto 13, 3) := by decide +kernel
theorem dX5_flower_35 : decode cX5_flower 35 = .ok (.aload_n 1, 1) := by decide +kernel
theorem dX5_flower_36 : decode cX5_flower 36 = .ok (.iload_n 2, 1) := by decide +kernel
theorem dX5_flower_37 : decode cX5_flower 37 = .ok (.iload_n 3, 1) := by decide +kernel
theorem dX5_flower_38 : decode cX5_flower 38 = .ok (.invokestatic 91, 3) := by decide +kernel
theorem dX5_flower_41 : decode cX5_flower 41 = .ok (.aastore, 1) := by decide +kernel
theorem dX5_flower_42 : decode cX5_flower 42 = .ok (.iinc 2 1, 3) := by decide +kernel
theorem dX5_flower_45 : decode cX5_flower 45 = .ok (.iinc 3 1, 3) := by decide +kernel
theorem dX5_flower_48 : decode cX5_flower 48 = .ok (.goto (-36), 3) := by decide +kernel
theorem dX5_flower_51 : decode cX5_flower 51 = .ok (.iconst 5, 1) := by decide +kernel
theorem dX5_flower_52 : decode cX5_flower 52 = .ok (.new 15, 3) := by decide +kernel
theorem dX5_flower_55 : decode cX5_flower 55 = .ok (.dup, 1) := by decide +kernel
theorem dX5_flower_56 : decode cX5_flower 56 = .ok (.iconst 3, 1) := by decide +kernel
theorem dX5_flower_57 : decode cX5_flower 57 = .ok (.bipush (-3), 2) := by decide +kernel
theorem dX5_flower_59 : decode cX5_flower 59 = .ok (.aload_n 1, 1) := by decide +kernel
theorem dX5_flower_60 : decode cX5_flower 60 = .ok (.invokespecial 112, 3) := by decide +kernel
theorem dX5_flower_63 : decode cX5_flower 63 = .ok (.invokestatic 87, 3) := by decide +kernel
theorem dX5_flower_66 : decode cX5_flower 66 = .ok (.invokestatic 102, 3) := by decide +kernel
theorem dX5_flower_69 : decode cX5_flower 69 = .ok (.areturn, 1) := by decide +kernel
theorem dX6_in_0 : decode cX6_in 0 = .ok (.lload_n 0, 1) := by decide +kernel
theorem dX6_in_1 : decode cX6_in 1 = .ok (.lload_n 2, 1) := by decide +kernel
theorem dX6_in_2 : decode cX6_in 2 = .ok (.lcmp, 1) := by decide +kernel
theorem dX6_in_3 : decode cX6_in 3 = .ok (.ifCond .lt 14, 3) := by decide +kernel
theorem dX6_in_6 : decode cX6_in 6 = .ok (.lload_n 0, 1) := by decide +kernel
theorem dX6_in_7 : decode cX6_in 7 = .ok (.lload 4, 2) := by decide +kernel
theorem dX6_in_9 : decode cX6_in 9 = .ok (.lcmp, 1) := by decide +kernel
theorem dX6_in_10 : decode cX6_in 10 = .ok (.ifCond .gt 7, 3) := by decide +kernel
theorem dX6_in_13 : decode cX6_in 13 = .ok (.iconst 1, 1) := by decide +kernel
theorem dX6_in_14 : decode cX6_in 14 = .ok (.goto 4, 3) := by decide +kernel
theorem dX6_in_17 : decode cX6_in 17 = .ok (.iconst 0, 1) := by decide +kernel
theorem dX6_in_18 : decode cX6_in 18 = .ok (.ireturn, 1) := by decide +kernel
theorem dX6_init_0 : decode cX6_init 0 = .ok (.aload_n 0, 1) := by decide +kernel
theorem dX6_init_1 : decode cX6_init 1 = .ok (.invokespecial 1, 3) := by decide +kernel
theorem dX6_init_4 : decode cX6_init 4 = .ok (.aload_n 0, 1) := by decide +kernel
theorem dX6_init_5 : decode cX6_init 5 = .ok (.bipush 24, 2) := by decide +kernel
theorem dX6_init_7 : decode cX6_init 7 = .ok (.newarray .int, 2) := by decide +kernel
theorem dX6_init_9 : decode cX6_init 9 = .ok (.putfield 7, 3) := by decide +kernel
theorem dX6_init_12 : decode cX6_init 12 = .ok (.aload_n 0, 1) := by decide +kernel
theorem dX6_init_13 : decode cX6_init 13 = .ok (.bipush 24, 2) := by decide +kernel
theorem dX6_init_15 : decode cX6_init 15 = .ok (.newarray .boolean, 2) := by decide +kernel
theorem dX6_init_17 : decode cX6_init 17 = .ok (.putfield 13, 3) := by decide +kernel
theorem dX6_init_20 : decode cX6_init 20 = .ok (.aload_n 0, 1) := by decide +kernel
theorem dX6_init_21 : decode cX6_init 21 = .ok (.sipush 144, 3) := by decide +kernel
theorem dX6_init_24 : decode cX6_init 24 = .ok (.newarray .int, 2) := by decide +kernel
theorem dX6_init_26 : decode cX6_init 26 = .ok (.putfield 17, 3) := by decide +kernel
theorem dX6_init_29 : decode cX6_init 29 = .ok (.aload_n 0, 1) := by decide +kernel
theorem dX6_init_30 : decode cX6_init 30 = .ok (.sipush 144, 3) := by decide +kernel
theorem dX6_init_33 : decode cX6_init 33 = .ok (.newarray .int, 2) := by decide +kernel
theorem dX6_init_35 : decode cX6_init 35 = .ok (.putfield 20, 3) := by decide +kernel
theorem dX6_init_38 : decode cX6_init 38 = .ok (.aload_n 0, 1) := by decide +kernel
theorem dX6_init_39 : decode cX6_init 39 = .ok (.sipush 144, 3) := by decide +kernel
theorem dX6_init_42 : decode cX6_init 42 = .ok (.newarray .int, 2) := by decide +kernel
theorem dX6_init_44 : decode cX6_init 44 = .ok (.putfield 23, 3) := by decide +kernel
theorem dX6_init_47 : decode cX6_init 47 = .ok (.aload_n 0, 1) := by decide +kernel
theorem dX6_init_48 : decode cX6_init 48 = .ok (.sipush 144, 3) := by decide +kernel
theorem dX6_init_51 : decode cX6_init 51 = .ok (.newarray .int, 2) := by decide +kernel
theorem dX6_init_53 : decode cX6_init 53 = .ok (.putfield 26, 3) := by decide +kernel
theorem dX6_init_56 : decode cX6_init 56 = .ok (.aload_n 0, 1) := by decide +kernel
theorem dX6_init_57 : decode cX6_init 57 = .ok (.sipush 200, 3) := by decide +kernel
theorem dX6_init_60 : decode cX6_init 60 = .ok (.newarray .int, 2) := by decide +kernel
theorem dX6_init_62 : decode cX6_init 62 = .ok (.putfield 29, 3) := by decide +kernel
theorem dX6_init_65 : decode cX6_init 65 = .ok (.aload_n 0, 1) := by decide +kernel
theorem dX6_init_66 : decode cX6_init 66 = .ok (.sipush 200, 3) := by decide +kernel
theorem dX6_init_69 : decode cX6_init 69 = .ok (.newarray .int, 2) := by decide +kernel
theorem dX6_init_71 : decode cX6_init 71 = .ok (.putfield 32, 3) := by decide +kernel
theorem dX6_init_74 : decode cX6_init 74 = .ok (.aload_n 0, 1) := by decide +kernel
theorem dX6_init_75 : decode cX6_init 75 = .ok (.sipush 200, 3) := by decide +kernel
theorem dX6_init_78 : decode cX6_init 78 = .ok (.newarray .int, 2) := by decide +kernel
theorem dX6_init_80 : decode cX6_init 80 = .ok (.putfield 35, 3) := by decide +kernel
theorem dX6_init_83 : decode cX6_init 83 = .ok (.aload_n 0, 1) := by decide +kernel
theorem dX6_init_84 : decode cX6_init 84 = .ok (.sipush 200, 3) := by decide +kernel
theorem dX6_init_87 : decode cX6_init 87 = .ok (.newarray .int, 2) := by decide +kernel
theorem dX6_init_89 : decode cX6_init 89 = .ok (.putfield 38, 3) := by decide +kernel
theorem dX6_init_92 : decode cX6_init 92 = .ok (.aload_n 0, 1) := by decide +kernel
theorem dX6_init_93 : decode cX6_init 93 = .ok (.sipush 200, 3) := by decide +kernel
theorem dX6_init_96 : decode cX6_init 96 = .ok (.newarray .int, 2) := by decide +kernel
theorem dX6_init_98 : decode cX6_init 98 = .ok (.putfield 41, 3) := by decide +kernel
theorem dX6_init_101 : decode cX6_init 101 = .ok (.aload_n 0, 1) := by decide +kernel
theorem dX6_init_102 : decode cX6_init 102 = .ok (.sipush 12000, 3) := by decide +kernel
theorem dX6_init_105 : decode cX6_init 105 = .ok (.newarray .int, 2) := by decide +kernel
theorem dX6_init_107 : decode cX6_init 107 = .ok (.putfield 44, 3) := by decide +kernel
theorem dX6_init_110 : decode cX6_init 110 = .ok (.aload_n 0, 1) := by decide +kernel
theorem dX6_init_111 : decode cX6_init 111 = .ok (.sipush 200, 3) := by decide +kernel
theorem dX6_init_114 : decode cX6_init 114 = .ok (.newarray .int, 2) := by decide +kernel
theorem dX6_init_116 : decode cX6_init 116 = .ok (.putfield 47, 3) := by decide +kernel
theorem dX6_init_119 : decode cX6_init 119 = .ok (.aload_n 0, 1) := by decide +kernel
theorem dX6_init_120 : decode cX6_init 120 = .ok (.sipush 200, 3) := by decide +kernel
theorem dX6_init_123 : decode cX6_init 123 = .ok (.newarray .int, 2) := by decide +kernel
theorem dX6_init_125 : decode cX6_init 125 = .ok (.putfield 50, 3) := by decide +kernel
theorem dX6_init_128 : decode cX6_init 128 = .ok (.aload_n 0, 1) := by decide +kernel
theorem dX6_init_129 : decode cX6_init 129 = .ok (.sipush 200, 3) := by decide +kernel
theorem dX6_init_132 : decode cX6_init 132 = .ok (.newarray .int, 2) := by decide +kernel
theorem dX6_init_134 : decode cX6_init 134 = .ok (.putfield 53, 3) := by decide +kernel
theorem dX6_init_137 : decode cX6_init 137 = .ok (.aload_n 0, 1) := by decide +kernel
theorem dX6_init_138 : decode cX6_init 138 = .ok (.sipush 200, 3) := by decide +kernel
theorem dX6_init_141 : decode cX6_init 141 = .ok (.newarray .int, 2) := by decide +kernel
theorem dX6_init_143 : decode cX6_init 143 = .ok (.putfield 56, 3) := by decide +kernel
theorem dX6_init_146 : decode cX6_init 146 = .ok (.aload_n 0, 1) := by decide +kernel
theorem dX6_init_147 : decode cX6_init 147 = .ok (.sipush 20000, 3) := by decide +kernel
theorem dX6_init_150 : decode cX6_init 150 = .ok (.newarray .int, 2) := by decide +kernel
theorem dX6_init_152 : decode cX6_init 152 = .ok (.putfield 59, 3) := by decide +kernel
theorem dX6_init_155 : decode cX6_init 155 = .ok (.aload_n 0, 1) := by decide +kernel
theorem dX6_init_156 : decode cX6_init 156 = .ok (.sipush 200, 3) := by decide +kernel
theorem dX6_init_159 : decode cX6_init 159 = .ok (.newarray .int, 2) := by decide +kernel
theorem dX6_init_161 : decode cX6_init 161 = .ok (.putfield 62, 3) := by decide +kernel
theorem dX6_init_164 : decode cX6_init 164 = .ok (.aload_n 0, 1) := by decide +kernel
theorem dX6_init_165 : decode cX6_init 165 = .ok (.sipush 400, 3) := by decide +kernel
theorem dX6_init_168 : decode cX6_init 168 = .ok (.newarray .int, 2) := by decide +kernel
theorem dX6_init_170 : decode cX6_init 170 = .ok (.putfield 65, 3) := by decide +kernel
theorem dX6_init_173 : decode cX6_init 173 = .ok (.aload_n 0, 1) := by decide +kernel
theorem dX6_init_174 : decode cX6_init 174 = .ok (.sipush 400, 3) := by decide +kernel
theorem dX6_init_177 : decode cX6_init 177 = .ok (.newarray .int, 2) := by decide +kernel
theorem dX6_init_179 : decode cX6_init 179 = .ok (.putfield 68, 3) := by decide +kernel
theorem dX6_init_182 : decode cX6_init 182 = .ok (.aload_n 0, 1) := by decide +kernel
theorem dX6_init_183 : decode cX6_init 183 = .ok (.sipush 200, 3) := by decide +kernel
theorem dX6_init_186 : decode cX6_init 186 = .ok (.newarray .int, 2) := by decide +kernel
theorem dX6_init_188 : decode cX6_init 188 = .ok (.putfield 71, 3) := by decide +kernel
theorem dX6_init_191 : decode cX6_init 191 = .ok (.aload_n 0, 1) := by decide +kernel
theorem dX6_init_192 : decode cX6_init 192 = .ok (.sipush 200, 3) := by decide +kernel
theorem dX6_init_195 : decode cX6_init 195 = .ok (.newarray .int, 2) := by decide +kernel
theorem dX6_init_197 : decode cX6_init 197 = .ok (.putfield 74, 3) := by decide +kernel
theorem dX6_init_200 : decode cX6_init 200 = .ok (.aload_n 0, 1) := by decide +kernel
theorem dX6_init_201 : decode cX6_init 201 = .ok (.sipush 200, 3) := by decide +kernel
theorem dX6_init_204 : decode cX6_init 204 = .ok (.newarray .int, 2) := by decide +kernel
theorem dX6_init_206 : decode cX6_init 206 = .ok (.putfield 77, 3) := by decide +kernel
theorem dX6_init_209 : decode cX6_init 209 = .ok (.aload_n 0, 1) := by decide +kernel
theorem dX6_init_210 : decode cX6_init 210 = .ok (.sipush 200, 3) := by decide +kernel
theorem dX6_init_213 : decode cX6_init 213 = .ok (.newarray .int, 2) := by decide +kernel
theorem dX6_init_215 : decode cX6_init 215 = .ok (.putfield 80, 3) := by decide +kernel
theorem dX6_init_218 : decode cX6_init 218 = .ok (.aload_n 0, 1) := by decide +kernel
theorem dX6_init_219 : decode cX6_init 219 = .ok (.bipush 6, 2) := by decide +kernel
theorem dX6_init_221 : decode cX6_init 221 = .ok (.newarray .int, 2) := by decide +kernel
theorem dX6_init_223 : decode cX6_init 223 = .ok (.putfield 83, 3) := by decide +kernel
theorem dX6_init_226 : decode cX6_init 226 = .ok (.aload_n 0, 1) := by decide +kernel
theorem dX6_init_227 : decode cX6_init 227 = .ok (.sipush 3904, 3) := by decide +kernel
theorem dX6_init_230 : decode cX6_init 230 = .ok (.newarray .int, 2) := by decide +kernel
theorem dX6_init_232 : decode cX6_init 232 = .ok (.putfield 86, 3) := by decide +kernel
theorem dX6_init_235 : decode cX6_init 235 = .ok (.aload_n 0, 1) := by decide +kernel
theorem dX6_init_236 : decode cX6_init 236 = .ok (.bipush 64, 2) := by decide +kernel
theorem dX6_init_238 : decode cX6_init 238 = .ok (.newarray .int, 2) := by decide +kernel
theorem dX6_init_240 : decode cX6_init 240 = .ok (.putfield 89, 3) := by decide +kernel
theorem dX6_init_243 : decode cX6_init 243 = .ok (.aload_n 0, 1) := by decide +kernel
theorem dX6_init_244 : decode cX6_init 244 = .ok (.bipush 64, 2) := by decide +kernel
theorem dX6_init_246 : decode cX6_init 246 = .ok (.newarray .int, 2) := by decide +kernel
theorem dX6_init_248 : decode cX6_init 248 = .ok (.putfield 92, 3) := by decide +kernel
theorem dX6_init_251 : decode cX6_init 251 = .ok (.aload_n 0, 1) := by decide +kernel
theorem dX6_init_252 : decode cX6_init 252 = .ok (.bipush 64, 2) := by decide +kernel
theorem dX6_init_254 : decode cX6_init 254 = .ok (.newarray .int, 2) := by decide +kernel
theorem dX6_init_256 : decode cX6_init 256 = .ok (.putfield 95, 3) := by decide +kernel
theorem dX6_init_259 : decode cX6_init 259 = .ok (.aload_n 0, 1) := by decide +kernel
theorem dX6_init_260 : decode cX6_init 260 = .ok (.bipush 64, 2) := by decide +kernel
theorem dX6_init_262 : decode cX6_init 262 = .ok (.newarray .int, 2) := by decide +kernel
theorem dX6_init_264 : decode cX6_init 264 = .ok (.putfield 98, 3) := by decide +kernel
theorem dX6_init_267 : decode cX6_init 267 = .ok (.aload_n 0, 1) := by decide +kernel
theorem dX6_init_268 : decode cX6_init 268 = .ok (.sipush 200, 3) := by decide +kernel
theorem dX6_init_271 : decode cX6_init 271 = .ok (.newarray .int, 2) := by decide +kernel
theorem dX6_init_273 : decode cX6_init 273 = .ok (.putfield 101, 3) := by decide +kernel
theorem dX6_init_276 : decode cX6_init 276 = .ok (.aload_n 0, 1) := by decide +kernel
theorem dX6_init_277 : decode cX6_init 277 = .ok (.sipush 200, 3) := by decide +kernel
theorem dX6_init_280 : decode cX6_init 280 = .ok (.newarray .int, 2) := by decide +kernel
theorem dX6_init_282 : decode cX6_init 282 = .ok (.putfield 104, 3) := by decide +kernel
theorem dX6_init_285 : decode cX6_init 285 = .ok (.aload_n 0, 1) := by decide +kernel
theorem dX6_init_286 : decode cX6_init 286 = .ok (.sipush 12000, 3) := by decide +kernel
theorem dX6_init_289 : decode cX6_init 289 = .ok (.newarray .int, 2) := by decide +kernel
theorem dX6_init_291 : decode cX6_init 291 = .ok (.putfield 107, 3) := by decide +kernel
theorem dX6_init_294 : decode cX6_init 294 = .ok (.aload_n 0, 1) := by decide +kernel
theorem dX6_init_295 : decode cX6_init 295 = .ok (.sipush 12000, 3) := by decide +kernel
theorem dX6_init_298 : decode cX6_init 298 = .ok (.newarray .int, 2) := by decide +kernel
theorem dX6_init_300 : decode cX6_init 300 = .ok (.putfield 110, 3) := by decide +kernel
theorem dX6_init_303 : decode cX6_init 303 = .ok (.aload_n 0, 1) := by decide +kernel
theorem dX6_init_304 : decode cX6_init 304 = .ok (.sipush 12000, 3) := by decide +kernel
theorem dX6_init_307 : decode cX6_init 307 = .ok (.newarray .int, 2) := by decide +kernel
theorem dX6_init_309 : decode cX6_init 309 = .ok (.putfield 113, 3) := by decide +kernel
theorem dX6_init_312 : decode cX6_init 312 = .ok (.aload_n 0, 1) := by decide +kernel
theorem dX6_init_313 : decode cX6_init 313 = .ok (.sipush 144, 3) := by decide +kernel
theorem dX6_init_316 : decode cX6_init 316 = .ok (.newarray .boolean, 2) := by decide +kernel
theorem dX6_init_318 : decode cX6_init 318 = .ok (.putfield 116, 3) := by decide +kernel
theorem dX6_init_321 : decode cX6_init 321 = .ok (.aload_n 0, 1) := by decide +kernel
theorem dX6_init_322 : decode cX6_init 322 = .ok (.bipush 12, 2) := by decide +kernel
theorem dX6_init_324 : decode cX6_init 324 = .ok (.newarray .boolean, 2) := by decide +kernel
theorem dX6_init_326 : decode cX6_init 326 = .ok (.putfield 119, 3) := by decide +kernel
theorem dX6_init_329 : decode cX6_init 329 = .ok (.aload_n 0, 1) := by decide +kernel
theorem dX6_init_330 : decode cX6_init 330 = .ok (.bipush 12, 2) := by decide +kernel
theorem dX6_init_332 : decode cX6_init 332 = .ok (.newarray .boolean, 2) := by decide +kernel
theorem dX6_init_334 : decode cX6_init 334 = .ok (.putfield 122, 3) := by decide +kernel
theorem dX6_init_337 : decode cX6_init 337 = .ok (.aload_n 0, 1) := by decide +kernel
theorem dX6_init_338 : decode cX6_init 338 = .ok (.bipush 12, 2) := by decide +kernel
theorem dX6_init_340 : decode cX6_init 340 = .ok (.newarray .boolean, 2) := by decide +kernel
theorem dX6_init_342 : decode cX6_init 342 = .ok (.putfield 125, 3) := by decide +kernel
theorem dX6_init_345 : decode cX6_init 345 = .ok (.aload_n 0, 1) := by decide +kernel
theorem dX6_init_346 : decode cX6_init 346 = .ok (.bipush 12, 2) := by decide +kernel
theorem dX6_init_348 : decode cX6_init 348 = .ok (.newarray .int, 2) := by decide +kernel
theorem dX6_init_350 : decode cX6_init 350 = .ok (.putfield 128, 3) := by decide +kernel
theorem dX6_init_353 : decode cX6_init 353 = .ok (.aload_n 0, 1) := by decide +kernel
theorem dX6_init_354 : decode cX6_init 354 = .ok (.bipush 12, 2) := by decide +kernel
theorem dX6_init_356 : decode cX6_init 356 = .ok (.newarray .int, 2) := by decide +kernel
theorem dX6_init_358 : decode cX6_init 358 = .ok (.putfield 131, 3) := by decide +kernel
theorem dX6_init_361 : decode cX6_init 361 = .ok (.aload_n 0, 1) := by decide +kernel
theorem dX6_init_362 : decode cX6_init 362 = .ok (.sipush 144, 3) := by decide +kernel
theorem dX6_init_365 : decode cX6_init 365 = .ok (.newarray .boolean, 2) := by decide +kernel
theorem dX6_init_367 : decode cX6_init 367 = .ok (.putfield 134, 3) := by decide +kernel
theorem dX6_init_370 : decode cX6_init 370 = .ok (.aload_n 0, 1) := by decide +kernel
theorem dX6_init_371 : decode cX6_init 371 = .ok (.sipush 144, 3) := by decide +kernel
theorem dX6_init_374 : decode cX6_init 374 = .ok (.newarray .boolean, 2) := by decide +kernel
theorem dX6_init_376 : decode cX6_init 376 = .ok (.putfield 137, 3) := by decide +kernel
theorem dX6_init_379 : decode cX6_init 379 = .ok (.aload_n 0, 1) := by decide +kernel
theorem dX6_init_380 : decode cX6_init 380 = .ok (.bipush 12, 2) := by decide +kernel
theorem dX6_init_382 : decode cX6_init 382 = .ok (.newarray .boolean, 2) := by decide +kernel
theorem dX6_init_384 : decode cX6_init 384 = .ok (.putfield 140, 3) := by decide +kernel
theorem dX6_init_387 : decode cX6_init 387 = .ok (.aload_n 0, 1) := by decide +kernel
theorem dX6_init_388 : decode cX6_init 388 = .ok (.bipush 12, 2) := by decide +kernel
theorem dX6_init_390 : decode cX6_init 390 = .ok (.newarray .boolean, 2) := by decide +kernel
theorem dX6_init_392 : decode cX6_init 392 = .ok (.putfield 143, 3) := by decide +kernel
theorem dX6_init_395 : decode cX6_init 395 = .ok (.aload_n 0, 1) := by decide +kernel
theorem dX6_init_396 : decode cX6_init 396 = .ok (.bipush 14, 2) := by decide +kernel
theorem dX6_init_398 : decode cX6_init 398 = .ok (.newarray .int, 2) := by decide +kernel
theorem dX6_init_400 : decode cX6_init 400 = .ok (.putfield 146, 3) := by decide +kernel
theorem dX6_init_403 : decode cX6_init 403 = .ok (.aload_n 0, 1) := by decide +kernel
theorem dX6_init_404 : decode cX6_init 404 = .ok (.sipush 144, 3) := by decide +kernel
theorem dX6_init_407 : decode cX6_init 407 = .ok (.newarray .int, 2) := by decide +kernel
theorem dX6_init_409 : decode cX6_init 409 = .ok (.putfield 149, 3) := by decide +kernel
theorem dX6_init_412 : decode cX6_init 412 = .ok (.aload_n 0, 1) := by decide +kernel
theorem dX6_init_413 : decode cX6_init 413 = .ok (.sipush 144, 3) := by decide +kernel
theorem dX6_init_416 : decode cX6_init 416 = .ok (.newarray .boolean, 2) := by decide +kernel
theorem dX6_init_418 : decode cX6_init 418 = .ok (.putfield 152, 3) := by decide +kernel
theorem dX6_init_421 : decode cX6_init 421 = .ok (.return_, 1) := by decide +kernel
theorem dX6_isCase_0 : decode cX6_isCase 0 = .ok (.iload_n 1, 1) := by decide +kernel
theorem dX6_isCase_1 : decode cX6_isCase 1 = .ok (.i2l, 1) := by decide +kernel
theorem dX6_isCase_2 : decode cX6_isCase 2 = .ok (.lconst 0, 1) := by decide +kernel
theorem dX6_isCase_3 : decode cX6_isCase 3 = .ok (.aload_n 0, 1) := by decide +kernel
theorem dX6_isCase_4 : decode cX6_isCase 4 = .ok (.getfield 155, 3) := by decide +kernel
theorem dX6_isCase_7 : decode cX6_isCase 7 = .ok (.iconst 1, 1) := by decide +kernel
theorem dX6_isCase_8 : decode cX6_isCase 8 = .ok (.isub, 1) := by decide +kernel
theorem dX6_isCase_9 : decode cX6_isCase 9 = .ok (.i2l, 1) := by decide +kernel
theorem dX6_isCase_10 : decode cX6_isCase 10 = .ok (.invokestatic 159, 3) := by decide +kernel
theorem dX6_isCase_13 : decode cX6_isCase 13 = .ok (.ireturn, 1) := by decide +kernel
theorem dX6_isName_0 : decode cX6_isName 0 = .ok (.iload_n 0, 1) := by decide +kernel
theorem dX6_isName_1 : decode cX6_isName 1 = .ok (.i2l, 1) := by decide +kernel
theorem dX6_isName_2 : decode cX6_isName 2 = .ok (.lconst 0, 1) := by decide +kernel
theorem dX6_isName_3 : decode cX6_isName 3 = .ok (.ldc2_w 163, 3) := by decide +kernel
theorem dX6_isName_6 : decode cX6_isName 6 = .ok (.invokestatic 159, 3) := by decide +kernel
theorem dX6_isName_9 : decode cX6_isName 9 = .ok (.ireturn, 1) := by decide +kernel
theorem dX6_isTime_0 : decode cX6_isTime 0 = .ok (.iload_n 0, 1) := by decide +kernel
theorem dX6_isTime_1 : decode cX6_isTime 1 = .ok (.i2l, 1) := by decide +kernel
theorem dX6_isTime_2 : decode cX6_isTime 2 = .ok (.ldc2_w 165, 3) := by decide +kernel
theorem dX6_isTime_5 : decode cX6_isTime 5 = .ok (.ldc2_w 167, 3) := by decide +kernel
theorem dX6_isTime_8 : decode cX6_isTime 8 = .ok (.invokestatic 159, 3) := by decide +kernel
theorem dX6_isTime_11 : decode cX6_isTime 11 = .ok (.ireturn, 1) := by decide +kernel
theorem dX6_open_0 : decode cX6_open 0 = .ok (.aload_n 0, 1) := by decide +kernel
theorem dX6_open_1 : decode cX6_open 1 = .ok (.getfield 155, 3) := by decide +kernel
theorem dX6_open_4 : decode cX6_open 4 = .ok (.bipush 24, 2) := by decide +kernel
theorem dX6_open_6 : decode cX6_open 6 = .ok (.if_icmp .ne 6, 3) := by decide +kernel
theorem dX6_open_9 : decode cX6_open 9 = .ok (.bipush (-2), 2) := by decide +kernel
theorem dX6_open_11 : decode cX6_open 11 = .ok (.ireturn, 1) := by decide +kernel
theorem dX6_open_12 : decode cX6_open 12 = .ok (.aload_n 0, 1) := by decide +kernel
theorem dX6_open_13 : decode cX6_open 13 = .ok (.dup, 1) := by decide +kernel
theorem dX6_open_14 : decode cX6_open 14 = .ok (.getfield 155, 3) := by decide +kernel
theorem dX6_open_17 : decode cX6_open 17 = .ok (.iconst 1, 1) := by decide +kernel
theorem dX6_open_18 : decode cX6_open 18 = .ok (.iadd, 1) := by decide +kernel
theorem dX6_open_19 : decode cX6_open 19 = .ok (.putfield 155, 3) := by decide +kernel
theorem dX6_open_22 : decode cX6_open 22 = .ok (.aload_n 0, 1) := by decide +kernel
theorem dX6_open_23 : decode cX6_open 23 = .ok (.getfield 155, 3) := by decide +kernel
theorem dX6_open_26 : decode cX6_open 26 = .ok (.iconst 1, 1) := by decide +kernel
theorem dX6_open_27 : decode cX6_open 27 = .ok (.isub, 1) := by decide +kernel
theorem dX6_open_28 : decode cX6_open 28 = .ok (.ireturn, 1) := by decide +kernel
theorem dX6_add_0 : decode cX6_add 0 = .ok (.aload_n 0, 1) := by decide +kernel
theorem dX6_add_1 : decode cX6_add 1 = .ok (.iload_n 1, 1) := by decide +kernel
theorem dX6_add_2 : decode cX6_add 2 = .ok (.invokevirtual 169, 3) := by decide +kernel
theorem dX6_add_5 : decode cX6_add 5 = .ok (.ifCond .eq 47, 3) := by decide +kernel
theorem dX6_add_8 : decode cX6_add 8 = .ok (.aload_n 0, 1) := by decide +kernel
theorem dX6_add_9 : decode cX6_add 9 = .ok (.getfield 13, 3) := by decide +kernel
theorem dX6_add_12 : decode cX6_add 12 = .ok (.iload_n 1, 1) := by decide +kernel
theorem dX6_add_13 : decode cX6_add 13 = .ok (.baload, 1) := by decide +kernel
theorem dX6_add_14 : decode cX6_add 14 = .ok (.ifCond .ne 38, 3) := by decide +kernel
theorem dX6_add_17 : decode cX6_add 17 = .ok (.iload_n 2, 1) := by decide +kernel
theorem dX6_add_18 : decode cX6_add 18 = .ok (.invokestatic 173, 3) := by decide +kernel
theorem dX6_add_21 : decode cX6_add 21 = .ok (.ifCond .eq 31, 3) := by decide +kernel
theorem dX6_add_24 : decode cX6_add 24 = .ok (.iload_n 3, 1) := by decide +kernel
theorem dX6_add_25 : decode cX6_add 25 = .ok (.i2l, 1) := by decide +kernel
theorem dX6_add_26 : decode cX6_add 26 = .ok (.lconst 0, 1) := by decide +kernel
theorem dX6_add_27 : decode cX6_add 27 = .ok (.ldc2_w 176, 3) := by decide +kernel
theorem dX6_add_30 : decode cX6_add 30 = .ok (.invokestatic 159, 3) := by decide +kernel
theorem dX6_add_33 : decode cX6_add 33 = .ok (.ifCond .eq 19, 3) := by decide +kernel
theorem dX6_add_36 : decode cX6_add 36 = .ok (.iload 4, 2) := by decide +kernel
theorem dX6_add_38 : decode cX6_add 38 = .ok (.invokestatic 178, 3) := by decide +kernel
theorem dX6_add_41 : decode cX6_add 41 = .ok (.ifCond .eq 11, 3) := by decide +kernel
theorem dX6_add_44 : decode cX6_add 44 = .ok (.iload 5, 2) := by decide +kernel
theorem dX6_add_46 : decode cX6_add 46 = .ok (.invokestatic 178, 3) := by decide +kernel
theorem dX6_add_49 : decode cX6_add 49 = .ok (.ifCond .ne 5, 3) := by decide +kernel
theorem dX6_add_52 : decode cX6_add 52 = .ok (.iconst (-1), 1) := by decide +kernel
theorem dX6_add_53 : decode cX6_add 53 = .ok (.ireturn, 1) := by decide +kernel
theorem dX6_add_54 : decode cX6_add 54 = .ok (.aload_n 0, 1) := by decide +kernel
theorem dX6_add_55 : decode cX6_add 55 = .ok (.getfield 7, 3) := by decide +kernel
theorem dX6_add_58 : decode cX6_add 58 = .ok (.iload_n 1, 1) := by decide +kernel
theorem dX6_add_59 : decode cX6_add 59 = .ok (.iaload, 1) := by decide +kernel
theorem dX6_add_60 : decode cX6_add 60 = .ok (.bipush 6, 2) := by decide +kernel
theorem dX6_add_62 : decode cX6_add 62 = .ok (.if_icmp .ne 6, 3) := by decide +kernel
theorem dX6_add_65 : decode cX6_add 65 = .ok (.bipush (-2), 2) := by decide +kernel
theorem dX6_add_67 : decode cX6_add 67 = .ok (.ireturn, 1) := by decide +kernel
theorem dX6_add_68 : decode cX6_add 68 = .ok (.bipush 6, 2) := by decide +kernel
theorem dX6_add_70 : decode cX6_add 70 = .ok (.iload_n 1, 1) := by decide +kernel
theorem dX6_add_71 : decode cX6_add 71 = .ok (.imul, 1) := by decide +kernel
theorem dX6_add_72 : decode cX6_add 72 = .ok (.aload_n 0, 1) := by decide +kernel
theorem dX6_add_73 : decode cX6_add 73 = .ok (.getfield 7, 3) := by decide +kernel
theorem dX6_add_76 : decode cX6_add 76 = .ok (.iload_n 1, 1) := by decide +kernel
theorem dX6_add_77 : decode cX6_add 77 = .ok (.iaload, 1) := by decide +kernel
theorem dX6_add_78 : decode cX6_add 78 = .ok (.iadd, 1) := by decide +kernel
theorem dX6_add_79 : decode cX6_add 79 = .ok (.istore 6, 2) := by decide +kernel
theorem dX6_add_81 : decode cX6_add 81 = .ok (.aload_n 0, 1) := by decide +kernel
theorem dX6_add_82 : decode cX6_add 82 = .ok (.getfield 17, 3) := by decide +kernel
theorem dX6_add_85 : decode cX6_add 85 = .ok (.iload 6, 2) := by decide +kernel
theorem dX6_add_87 : decode cX6_add 87 = .ok (.iload_n 2, 1) := by decide +kernel
theorem dX6_add_88 : decode cX6_add 88 = .ok (.iastore, 1) := by decide +kernel
theorem dX6_add_89 : decode cX6_add 89 = .ok (.aload_n 0, 1) := by decide +kernel
theorem dX6_add_90 : decode cX6_add 90 = .ok (.getfield 20, 3) := by decide +kernel
theorem dX6_add_93 : decode cX6_add 93 = .ok (.iload 6, 2) := by decide +kernel
theorem dX6_add_95 : decode cX6_add 95 = .ok (.iload_n 3, 1) := by decide +kernel
theorem dX6_add_96 : decode cX6_add 96 = .ok (.iastore, 1) := by decide +kernel
theorem dX6_add_97 : decode cX6_add 97 = .ok (.aload_n 0, 1) := by decide +kernel
theorem dX6_add_98 : decode cX6_add 98 = .ok (.getfield 23, 3) := by decide +kernel
theorem dX6_add_101 : decode cX6_add 101 = .ok (.iload 6, 2) := by decide +kernel
theorem dX6_add_103 : decode cX6_add 103 = .ok (.iload 4, 2) := by decide +kernel
theorem dX6_add_105 : decode cX6_add 105 = .ok (.iastore, 1) := by decide +kernel
theorem dX6_add_106 : decode cX6_add 106 = .ok (.aload_n 0, 1) := by decide +kernel
theorem dX6_add_107 : decode cX6_add 107 = .ok (.getfield 26, 3) := by decide +kernel
theorem dX6_add_110 : decode cX6_add 110 = .ok (.iload 6, 2) := by decide +kernel
theorem dX6_add_112 : decode cX6_add 112 = .ok (.iload 5, 2) := by decide +kernel
theorem dX6_add_114 : decode cX6_add 114 = .ok (.iastore, 1) := by decide +kernel
theorem dX6_add_115 : decode cX6_add 115 = .ok (.aload_n 0, 1) := by decide +kernel
theorem dX6_add_116 : decode cX6_add 116 = .ok (.getfield 7, 3) := by decide +kernel
theorem dX6_add_119 : decode cX6_add 119 = .ok (.iload_n 1, 1) := by decide +kernel
theorem dX6_add_120 : decode cX6_add 120 = .ok (.dup2, 1) := by decide +kernel
theorem dX6_add_121 : decode cX6_add 121 = .ok (.iaload, 1) := by decide +kernel
theorem dX6_add_122 : decode cX6_add 122 = .ok (.iconst 1, 1) := by decide +kernel
theorem dX6_add_123 : decode cX6_add 123 = .ok (.iadd, 1) := by decide +kernel
theorem dX6_add_124 : decode cX6_add 124 = .ok (.iastore, 1) := by decide +kernel
theorem dX6_add_125 : decode cX6_add 125 = .ok (.aload_n 0, 1) := by decide +kernel
theorem dX6_add_126 : decode cX6_add 126 = .ok (.getfield 7, 3) := by decide +kernel
theorem dX6_add_129 : decode cX6_add 129 = .ok (.iload_n 1, 1) := by decide +kernel
theorem dX6_add_130 : decode cX6_add 130 = .ok (.iaload, 1) := by decide +kernel
theorem dX6_add_131 : decode cX6_add 131 = .ok (.ireturn, 1) := by decide +kernel
theorem dX6_cut_0 : decode cX6_cut 0 = .ok (.aload_n 0, 1) := by decide +kernel
theorem dX6_cut_1 : decode cX6_cut 1 = .ok (.iload_n 1, 1) := by decide +kernel
theorem dX6_cut_2 : decode cX6_cut 2 = .ok (.invokevirtual 169, 3) := by decide +kernel
theorem dX6_cut_5 : decode cX6_cut 5 = .ok (.ifCond .eq 21, 3) := by decide +kernel
theorem dX6_cut_8 : decode cX6_cut 8 = .ok (.aload_n 0, 1) := by decide +kernel
theorem dX6_cut_9 : decode cX6_cut 9 = .ok (.getfield 13, 3) := by decide +kernel
theorem dX6_cut_12 : decode cX6_cut 12 = .ok (.iload_n 1, 1) := by decide +kernel
theorem dX6_cut_13 : decode cX6_cut 13 = .ok (.baload, 1) := by decide +kernel
theorem dX6_cut_14 : decode cX6_cut 14 = .ok (.ifCond .ne 12, 3) := by decide +kernel
theorem dX6_cut_17 : decode cX6_cut 17 = .ok (.aload_n 0, 1) := by decide +kernel
theorem dX6_cut_18 : decode cX6_cut 18 = .ok (.getfield 7, 3) := by decide +kernel
theorem dX6_cut_21 : decode cX6_cut 21 = .ok (.iload_n 1, 1) := by decide +kernel
theorem dX6_cut_22 : decode cX6_cut 22 = .ok (.iaload, 1) := by decide +kernel
theorem dX6_cut_23 : decode cX6_cut 23 = .ok (.ifCond .ne 5, 3) := by decide +kernel
theorem dX6_cut_26 : decode cX6_cut 26 = .ok (.iconst (-1), 1) := by decide +kernel
theorem dX6_cut_27 : decode cX6_cut 27 = .ok (.ireturn, 1) := by decide +kernel
theorem dX6_cut_28 : decode cX6_cut 28 = .ok (.aload_n 0, 1) := by decide +kernel
theorem dX6_cut_29 : decode cX6_cut 29 = .ok (.getfield 7, 3) := by decide +kernel
theorem dX6_cut_32 : decode cX6_cut 32 = .ok (.iload_n 1, 1) := by decide +kernel
theorem dX6_cut_33 : decode cX6_cut 33 = .ok (.dup2, 1) := by decide +kernel
theorem dX6_cut_34 : decode cX6_cut 34 = .ok (.iaload, 1) := by decide +kernel
theorem dX6_cut_35 : decode cX6_cut 35 = .ok (.iconst 1, 1) := by decide +kernel
theorem dX6_cut_36 : decode cX6_cut 36 = .ok (.isub, 1) := by decide +kernel
theorem dX6_cut_37 : decode cX6_cut 37 = .ok (.iastore, 1) := by decide +kernel
theorem dX6_cut_38 : decode cX6_cut 38 = .ok (.aload_n 0, 1) := by decide +kernel
theorem dX6_cut_39 : decode cX6_cut 39 = .ok (.getfield 7, 3) := by decide +kernel
theorem dX6_cut_42 : decode cX6_cut 42 = .ok (.iload_n 1, 1) := by decide +kernel
theorem dX6_cut_43 : decode cX6_cut 43 = .ok (.iaload, 1) := by decide +kernel
theorem dX6_cut_44 : decode cX6_cut 44 = .ok (.ireturn, 1) := by decide +kernel
theorem dX6_drop_0 : decode cX6_drop 0 = .ok (.aload_n 0, 1) := by decide +kernel
theorem dX6_drop_1 : decode cX6_drop 1 = .ok (.iload_n 1, 1) := by decide +kernel
theorem dX6_drop_2 : decode cX6_drop 2 = .ok (.invokevirtual 169, 3) := by decide +kernel
theorem dX6_drop_5 : decode cX6_drop 5 = .ok (.ifCond .ne 5, 3) := by decide +kernel
theorem dX6_drop_8 : decode cX6_drop 8 = .ok (.iconst (-1), 1) := by decide +kernel
theorem dX6_drop_9 : decode cX6_drop 9 = .ok (.ireturn, 1) := by decide +kernel
theorem dX6_drop_10 : decode cX6_drop 10 = .ok (.aload_n 0, 1) := by decide +kernel
theorem dX6_drop_11 : decode cX6_drop 11 = .ok (.getfield 13, 3) := by decide +kernel
theorem dX6_drop_14 : decode cX6_drop 14 = .ok (.iload_n 1, 1) := by decide +kernel
theorem dX6_drop_15 : decode cX6_drop 15 = .ok (.baload, 1) := by decide +kernel
theorem dX6_drop_16 : decode cX6_drop 16 = .ok (.ifCond .eq 7, 3) := by decide +kernel
theorem dX6_drop_19 : decode cX6_drop 19 = .ok (.iconst 1, 1) := by decide +kernel
theorem dX6_drop_20 : decode cX6_drop 20 = .ok (.goto 4, 3) := by decide +kernel
theorem dX6_drop_23 : decode cX6_drop 23 = .ok (.iconst 0, 1) := by decide +kernel
theorem dX6_drop_24 : decode cX6_drop 24 = .ok (.istore_n 3, 1) := by decide +kernel
theorem dX6_drop_25 : decode cX6_drop 25 = .ok (.aload_n 0, 1) := by decide +kernel
theorem dX6_drop_26 : decode cX6_drop 26 = .ok (.getfield 13, 3) := by decide +kernel
theorem dX6_drop_29 : decode cX6_drop 29 = .ok (.iload_n 1, 1) := by decide +kernel
theorem dX6_drop_30 : decode cX6_drop 30 = .ok (.iload_n 2, 1) := by decide +kernel
theorem dX6_drop_31 : decode cX6_drop 31 = .ok (.bastore, 1) := by decide +kernel
theorem dX6_drop_32 : decode cX6_drop 32 = .ok (.iload_n 3, 1) := by decide +kernel
theorem dX6_drop_33 : decode cX6_drop 33 = .ok (.ireturn, 1) := by decide +kernel
theorem dX6_told_0 : decode cX6_told 0 = .ok (.aload_n 0, 1) := by decide +kernel
theorem dX6_told_1 : decode cX6_told 1 = .ok (.iload_n 1, 1) := by decide +kernel
theorem dX6_told_2 : decode cX6_told 2 = .ok (.invokevirtual 169, 3) := by decide +kernel
theorem dX6_told_5 : decode cX6_told 5 = .ok (.ifCond .eq 43, 3) := by decide +kernel
theorem dX6_told_8 : decode cX6_told 8 = .ok (.iload_n 2, 1) := by decide +kernel
theorem dX6_told_9 : decode cX6_told 9 = .ok (.i2l, 1) := by decide +kernel
theorem dX6_told_10 : decode cX6_told 10 = .ok (.ldc2_w 165, 3) := by decide +kernel
theorem dX6_told_13 : decode cX6_told 13 = .ok (.aload_n 0, 1) := by decide +kernel
theorem dX6_told_14 : decode cX6_told 14 = .ok (.getfield 7, 3) := by decide +kernel
theorem dX6_told_17 : decode cX6_told 17 = .ok (.iload_n 1, 1) := by decide +kernel
theorem dX6_told_18 : decode cX6_told 18 = .ok (.iaload, 1) := by decide +kernel
theorem dX6_told_19 : decode cX6_told 19 = .ok (.iconst 1, 1) := by decide +kernel
theorem dX6_told_20 : decode cX6_told 20 = .ok (.isub, 1) := by decide +kernel
theorem dX6_told_21 : decode cX6_told 21 = .ok (.i2l, 1) := by decide +kernel
theorem dX6_told_22 : decode cX6_told 22 = .ok (.invokestatic 159, 3) := by decide +kernel
theorem dX6_told_25 : decode cX6_told 25 = .ok (.ifCond .eq 23, 3) := by decide +kernel
theorem dX6_told_28 : decode cX6_told 28 = .ok (.iload_n 3, 1) := by decide +kernel
theorem dX6_told_29 : decode cX6_told 29 = .ok (.i2l, 1) := by decide +kernel
theorem dX6_told_30 : decode cX6_told 30 = .ok (.lconst 0, 1) := by decide +kernel
theorem dX6_told_31 : decode cX6_told 31 = .ok (.iload_n 2, 1) := by decide +kernel
theorem dX6_told_32 : decode cX6_told 32 = .ok (.ifCond .ge 7, 3) := by decide +kernel
theorem dX6_told_35 : decode cX6_told 35 = .ok (.lconst 1, 1) := by decide +kernel
theorem dX6_told_36 : decode cX6_told 36 = .ok (.goto 6, 3) := by decide +kernel
theorem dX6_told_39 : decode cX6_told 39 = .ok (.ldc2_w 181, 3) := by decide +kernel
theorem dX6_told_42 : decode cX6_told 42 = .ok (.invokestatic 159, 3) := by decide +kernel
theorem dX6_told_45 : decode cX6_told 45 = .ok (.ifCond .ne 6, 3) := by decide +kernel
theorem dX6_told_48 : decode cX6_told 48 = .ok (.bipush (-9), 2) := by decide +kernel
theorem dX6_told_50 : decode cX6_told 50 = .ok (.ireturn, 1) := by decide +kernel
theorem dX6_told_51 : decode cX6_told 51 = .ok (.iload_n 2, 1) := by decide +kernel
theorem dX6_told_52 : decode cX6_told 52 = .ok (.ifCond .ge 31, 3) := by decide +kernel
theorem dX6_told_55 : decode cX6_told 55 = .ok (.iload_n 3, 1) := by decide +kernel
theorem dX6_told_56 : decode cX6_told 56 = .ok (.ifCond .ne 12, 3) := by decide +kernel
theorem dX6_told_59 : decode cX6_told 59 = .ok (.aload_n 0, 1) := by decide +kernel
theorem dX6_told_60 : decode cX6_told 60 = .ok (.getfield 7, 3) := by decide +kernel
theorem dX6_told_63 : decode cX6_told 63 = .ok (.iload_n 1, 1) := by decide +kernel
theorem dX6_told_64 : decode cX6_told 64 = .ok (.iaload, 1) := by decide +kernel
theorem dX6_told_65 : decode cX6_told 65 = .ok (.goto 17, 3) := by decide +kernel
theorem dX6_told_68 : decode cX6_told 68 = .ok (.aload_n 0, 1) := by decide +kernel
theorem dX6_told_69 : decode cX6_told 69 = .ok (.getfield 13, 3) := by decide +kernel
theorem dX6_told_72 : decode cX6_told 72 = .ok (.iload_n 1, 1) := by decide +kernel
theorem dX6_told_73 : decode cX6_told 73 = .ok (.baload, 1) := by decide +kernel
theorem dX6_told_74 : decode cX6_told 74 = .ok (.ifCond .eq 7, 3) := by decide +kernel
theorem dX6_told_77 : decode cX6_told 77 = .ok (.iconst 1, 1) := by decide +kernel
theorem dX6_told_78 : decode cX6_told 78 = .ok (.goto 4, 3) := by decide +kernel
theorem dX6_told_81 : decode cX6_told 81 = .ok (.iconst 0, 1) := by decide +kernel
theorem dX6_told_82 : decode cX6_told 82 = .ok (.ireturn, 1) := by decide +kernel
theorem dX6_told_83 : decode cX6_told 83 = .ok (.bipush 6, 2) := by decide +kernel
theorem dX6_told_85 : decode cX6_told 85 = .ok (.iload_n 1, 1) := by decide +kernel
theorem dX6_told_86 : decode cX6_told 86 = .ok (.imul, 1) := by decide +kernel
theorem dX6_told_87 : decode cX6_told 87 = .ok (.iload_n 2, 1) := by decide +kernel
theorem dX6_told_88 : decode cX6_told 88 = .ok (.iadd, 1) := by decide +kernel
theorem dX6_told_89 : decode cX6_told 89 = .ok (.istore 4, 2) := by decide +kernel
theorem dX6_told_91 : decode cX6_told 91 = .ok (.iload_n 3, 1) := by decide +kernel
theorem dX6_told_92 : decode cX6_told 92 = .ok (.ifCond .ne 13, 3) := by decide +kernel
theorem dX6_told_95 : decode cX6_told 95 = .ok (.aload_n 0, 1) := by decide +kernel
theorem dX6_told_96 : decode cX6_told 96 = .ok (.getfield 17, 3) := by decide +kernel
theorem dX6_told_99 : decode cX6_told 99 = .ok (.iload 4, 2) := by decide +kernel
theorem dX6_told_101 : decode cX6_told 101 = .ok (.iaload, 1) := by decide +kernel
theorem dX6_told_102 : decode cX6_told 102 = .ok (.goto 40, 3) := by decide +kernel
theorem dX6_told_105 : decode cX6_told 105 = .ok (.iload_n 3, 1) := by decide +kernel
theorem dX6_told_106 : decode cX6_told 106 = .ok (.iconst 1, 1) := by decide +kernel
theorem dX6_told_107 : decode cX6_told 107 = .ok (.if_icmp .ne 13, 3) := by decide +kernel
theorem dX6_told_110 : decode cX6_told 110 = .ok (.aload_n 0, 1) := by decide +kernel
theorem dX6_told_111 : decode cX6_told 111 = .ok (.getfield 20, 3) := by decide +kernel
theorem dX6_told_114 : decode cX6_told 114 = .ok (.iload 4, 2) := by decide +kernel
theorem dX6_told_116 : decode cX6_told 116 = .ok (.iaload, 1) := by decide +kernel
theorem dX6_told_117 : decode cX6_told 117 = .ok (.goto 25, 3) := by decide +kernel
theorem dX6_told_120 : decode cX6_told 120 = .ok (.iload_n 3, 1) := by decide +kernel
theorem dX6_told_121 : decode cX6_told 121 = .ok (.iconst 2, 1) := by decide +kernel
theorem dX6_told_122 : decode cX6_told 122 = .ok (.if_icmp .ne 13, 3) := by decide +kernel
theorem dX6_told_125 : decode cX6_told 125 = .ok (.aload_n 0, 1) := by decide +kernel
theorem dX6_told_126 : decode cX6_told 126 = .ok (.getfield 23, 3) := by decide +kernel
theorem dX6_told_129 : decode cX6_told 129 = .ok (.iload 4, 2) := by decide +kernel
theorem dX6_told_131 : decode cX6_told 131 = .ok (.iaload, 1) := by decide +kernel
theorem dX6_told_132 : decode cX6_told 132 = .ok (.goto 10, 3) := by decide +kernel
theorem dX6_told_135 : decode cX6_told 135 = .ok (.aload_n 0, 1) := by decide +kernel
theorem dX6_told_136 : decode cX6_told 136 = .ok (.getfield 26, 3) := by decide +kernel
theorem dX6_told_139 : decode cX6_told 139 = .ok (.iload 4, 2) := by decide +kernel
theorem dX6_told_141 : decode cX6_told 141 = .ok (.iaload, 1) := by decide +kernel
theorem dX6_told_142 : decode cX6_told 142 = .ok (.ireturn, 1) := by decide +kernel
theorem dX6_isIn_0 : decode cX6_isIn 0 = .ok (.iload_n 1, 1) := by decide +kernel
theorem dX6_isIn_1 : decode cX6_isIn 1 = .ok (.bipush 6, 2) := by decide +kernel
theorem dX6_isIn_3 : decode cX6_isIn 3 = .ok (.idiv, 1) := by decide +kernel
theorem dX6_isIn_4 : decode cX6_isIn 4 = .ok (.istore_n 3, 1) := by decide +kernel
theorem dX6_isIn_5 : decode cX6_isIn 5 = .ok (.iload_n 3, 1) := by decide +kernel
theorem dX6_isIn_6 : decode cX6_isIn 6 = .ok (.aload_n 0, 1) := by decide +kernel
theorem dX6_isIn_7 : decode cX6_isIn 7 = .ok (.getfield 155, 3) := by decide +kernel
theorem dX6_isIn_10 : decode cX6_isIn 10 = .ok (.if_icmp .ge 40, 3) := by decide +kernel
theorem dX6_isIn_13 : decode cX6_isIn 13 = .ok (.aload_n 0, 1) := by decide +kernel
theorem dX6_isIn_14 : decode cX6_isIn 14 = .ok (.getfield 13, 3) := by decide +kernel
theorem dX6_isIn_17 : decode cX6_isIn 17 = .ok (.iload_n 3, 1) := by decide +kernel
theorem dX6_isIn_18 : decode cX6_isIn 18 = .ok (.baload, 1) := by decide +kernel
theorem dX6_isIn_19 : decode cX6_isIn 19 = .ok (.ifCond .ne 31, 3) := by decide +kernel
theorem dX6_isIn_22 : decode cX6_isIn 22 = .ok (.iload_n 1, 1) := by decide +kernel
theorem dX6_isIn_23 : decode cX6_isIn 23 = .ok (.bipush 6, 2) := by decide +kernel
theorem dX6_isIn_25 : decode cX6_isIn 25 = .ok (.irem, 1) := by decide +kernel
theorem dX6_isIn_26 : decode cX6_isIn 26 = .ok (.aload_n 0, 1) := by decide +kernel
theorem dX6_isIn_27 : decode cX6_isIn 27 = .ok (.getfield 7, 3) := by decide +kernel
theorem dX6_isIn_30 : decode cX6_isIn 30 = .ok (.iload_n 3, 1) := by decide +kernel
theorem dX6_isIn_31 : decode cX6_isIn 31 = .ok (.iaload, 1) := by decide +kernel
theorem dX6_isIn_32 : decode cX6_isIn 32 = .ok (.if_icmp .ge 18, 3) := by decide +kernel
theorem dX6_isIn_35 : decode cX6_isIn 35 = .ok (.iload_n 2, 1) := by decide +kernel
theorem dX6_isIn_36 : decode cX6_isIn 36 = .ok (.ifCond .eq 10, 3) := by decide +kernel
theorem dX6_isIn_39 : decode cX6_isIn 39 = .ok (.iload_n 1, 1) := by decide +kernel
theorem dX6_isIn_40 : decode cX6_isIn 40 = .ok (.bipush 6, 2) := by decide +kernel
theorem dX6_isIn_42 : decode cX6_isIn 42 = .ok (.irem, 1) := by decide +kernel
theorem dX6_isIn_43 : decode cX6_isIn 43 = .ok (.ifCond .le 7, 3) := by decide +kernel
theorem dX6_isIn_46 : decode cX6_isIn 46 = .ok (.iconst 1, 1) := by decide +kernel
theorem dX6_isIn_47 : decode cX6_isIn 47 = .ok (.goto 4, 3) := by decide +kernel
theorem dX6_isIn_50 : decode cX6_isIn 50 = .ok (.iconst 0, 1) := by decide +kernel
theorem dX6_isIn_51 : decode cX6_isIn 51 = .ok (.ireturn, 1) := by decide +kernel
theorem dX6_follows_0 : decode cX6_follows 0 = .ok (.iload_n 1, 1) := by decide +kernel
theorem dX6_follows_1 : decode cX6_follows 1 = .ok (.invokestatic 173, 3) := by decide +kernel
theorem dX6_follows_4 : decode cX6_follows 4 = .ok (.ifCond .eq 10, 3) := by decide +kernel
theorem dX6_follows_7 : decode cX6_follows 7 = .ok (.iload_n 2, 1) := by decide +kernel
theorem dX6_follows_8 : decode cX6_follows 8 = .ok (.invokestatic 173, 3) := by decide +kernel
theorem dX6_follows_11 : decode cX6_follows 11 = .ok (.ifCond .ne 5, 3) := by decide +kernel
theorem dX6_follows_14 : decode cX6_follows 14 = .ok (.iconst (-1), 1) := by decide +kernel
theorem dX6_follows_15 : decode cX6_follows 15 = .ok (.ireturn, 1) := by decide +kernel
theorem dX6_follows_16 : decode cX6_follows 16 = .ok (.iconst 0, 1) := by decide +kernel
theorem dX6_follows_17 : decode cX6_follows 17 = .ok (.istore_n 3, 1) := by decide +kernel
theorem dX6_follows_18 : decode cX6_follows 18 = .ok (.iconst 0, 1) := by decide +kernel
theorem dX6_follows_19 : decode cX6_follows 19 = .ok (.istore 4, 2) := by decide +kernel
theorem dX6_follows_21 : decode cX6_follows 21 = .ok (.iload 4, 2) := by decide +kernel
theorem dX6_follows_23 : decode cX6_follows 23 = .ok (.sipush 144, 3) := by decide +kernel
theorem dX6_follows_26 : decode cX6_follows 26 = .ok (.if_icmp .ge 51, 3) := by decide +kernel
theorem dX6_follows_29 : decode cX6_follows 29 = .ok (.iload_n 3, 1) := by decide +kernel
theorem dX6_follows_30 : decode cX6_follows 30 = .ok (.aload_n 0, 1) := by decide +kernel
theorem dX6_follows_31 : decode cX6_follows 31 = .ok (.iload 4, 2) := by decide +kernel
theorem dX6_follows_33 : decode cX6_follows 33 = .ok (.iconst 1, 1) := by decide +kernel
theorem dX6_follows_34 : decode cX6_follows 34 = .ok (.invokevirtual 183, 3) := by decide +kernel
theorem dX6_follows_37 : decode cX6_follows 37 = .ok (.ifCond .eq 31, 3) := by decide +kernel
theorem dX6_follows_40 : decode cX6_follows 40 = .ok (.aload_n 0, 1) := by decide +kernel
theorem dX6_follows_41 : decode cX6_follows 41 = .ok (.getfield 17, 3) := by decide +kernel
theorem dX6_follows_44 : decode cX6_follows 44 = .ok (.iload 4, 2) := by decide +kernel
theorem dX6_follows_46 : decode cX6_follows 46 = .ok (.iaload, 1) := by decide +kernel
theorem dX6_follows_47 : decode cX6_follows 47 = .ok (.iload_n 1, 1) := by decide +kernel
theorem dX6_follows_48 : decode cX6_follows 48 = .ok (.if_icmp .ne 20, 3) := by decide +kernel
theorem dX6_follows_51 : decode cX6_follows 51 = .ok (.aload_n 0, 1) := by decide +kernel
theorem dX6_follows_52 : decode cX6_follows 52 = .ok (.getfield 17, 3) := by decide +kernel
theorem dX6_follows_55 : decode cX6_follows 55 = .ok (.iload 4, 2) := by decide +kernel
theorem dX6_follows_57 : decode cX6_follows 57 = .ok (.iconst 1, 1) := by decide +kernel
theorem dX6_follows_58 : decode cX6_follows 58 = .ok (.isub, 1) := by decide +kernel
theorem dX6_follows_59 : decode cX6_follows 59 = .ok (.iaload, 1) := by decide +kernel
theorem dX6_follows_60 : decode cX6_follows 60 = .ok (.iload_n 2, 1) := by decide +kernel
theorem dX6_follows_61 : decode cX6_follows 61 = .ok (.if_icmp .ne 7, 3) := by decide +kernel
theorem dX6_follows_64 : decode cX6_follows 64 = .ok (.iconst 1, 1) := by decide +kernel
theorem dX6_follows_65 : decode cX6_follows 65 = .ok (.goto 4, 3) := by decide +kernel
theorem dX6_follows_68 : decode cX6_follows 68 = .ok (.iconst 0, 1) := by decide +kernel
theorem dX6_follows_69 : decode cX6_follows 69 = .ok (.iadd, 1) := by decide +kernel
theorem dX6_follows_70 : decode cX6_follows 70 = .ok (.istore_n 3, 1) := by decide +kernel
theorem dX6_follows_71 : decode cX6_follows 71 = .ok (.iinc 4 1, 3) := by decide +kernel
theorem dX6_follows_74 : decode cX6_follows 74 = .ok (.goto (-53), 3) := by decide +kernel
theorem dX6_follows_77 : decode cX6_follows 77 = .ok (.iload_n 3, 1) := by decide +kernel
theorem dX6_follows_78 : decode cX6_follows 78 = .ok (.ireturn, 1) := by decide +kernel
theorem dX6_stands_0 : decode cX6_stands 0 = .ok (.iload_n 1, 1) := by decide +kernel
theorem dX6_stands_1 : decode cX6_stands 1 = .ok (.invokestatic 173, 3) := by decide +kernel
theorem dX6_stands_4 : decode cX6_stands 4 = .ok (.ifCond .eq 15, 3) := by decide +kernel
theorem dX6_stands_7 : decode cX6_stands 7 = .ok (.iload_n 2, 1) := by decide +kernel
theorem dX6_stands_8 : decode cX6_stands 8 = .ok (.i2l, 1) := by decide +kernel
theorem dX6_stands_9 : decode cX6_stands 9 = .ok (.lconst 0, 1) := by decide +kernel
theorem dX6_stands_10 : decode cX6_stands 10 = .ok (.ldc2_w 187, 3) := by decide +kernel
theorem dX6_stands_13 : decode cX6_stands 13 = .ok (.invokestatic 159, 3) := by decide +kernel
theorem dX6_stands_16 : decode cX6_stands 16 = .ok (.ifCond .ne 5, 3) := by decide +kernel
theorem dX6_stands_19 : decode cX6_stands 19 = .ok (.iconst (-1), 1) := by decide +kernel
theorem dX6_stands_20 : decode cX6_stands 20 = .ok (.ireturn, 1) := by decide +kernel
theorem dX6_stands_21 : decode cX6_stands 21 = .ok (.iconst 0, 1) := by decide +kernel
theorem dX6_stands_22 : decode cX6_stands 22 = .ok (.istore_n 3, 1) := by decide +kernel
theorem dX6_stands_23 : decode cX6_stands 23 = .ok (.iconst 0, 1) := by decide +kernel
theorem dX6_stands_24 : decode cX6_stands 24 = .ok (.istore 4, 2) := by decide +kernel
theorem dX6_stands_26 : decode cX6_stands 26 = .ok (.iload 4, 2) := by decide +kernel
theorem dX6_stands_28 : decode cX6_stands 28 = .ok (.sipush 144, 3) := by decide +kernel
theorem dX6_stands_31 : decode cX6_stands 31 = .ok (.if_icmp .ge 80, 3) := by decide +kernel
theorem dX6_stands_34 : decode cX6_stands 34 = .ok (.aload_n 0, 1) := by decide +kernel
theorem dX6_stands_35 : decode cX6_stands 35 = .ok (.iload 4, 2) := by decide +kernel
theorem dX6_stands_37 : decode cX6_stands 37 = .ok (.iconst 0, 1) := by decide +kernel
theorem dX6_stands_38 : decode cX6_stands 38 = .ok (.invokevirtual 183, 3) := by decide +kernel
theorem dX6_stands_41 : decode cX6_stands 41 = .ok (.ifCond .eq 64, 3) := by decide +kernel
theorem dX6_stands_44 : decode cX6_stands 44 = .ok (.aload_n 0, 1) := by decide +kernel
theorem dX6_stands_45 : decode cX6_stands 45 = .ok (.getfield 17, 3) := by decide +kernel
theorem dX6_stands_48 : decode cX6_stands 48 = .ok (.iload 4, 2) := by decide +kernel
theorem dX6_stands_50 : decode cX6_stands 50 = .ok (.iaload, 1) := by decide +kernel
theorem dX6_stands_51 : decode cX6_stands 51 = .ok (.iload_n 1, 1) := by decide +kernel
theorem dX6_stands_52 : decode cX6_stands 52 = .ok (.if_icmp .ne 53, 3) := by decide +kernel
theorem dX6_stands_55 : decode cX6_stands 55 = .ok (.iload_n 3, 1) := by decide +kernel
theorem dX6_stands_56 : decode cX6_stands 56 = .ok (.iload_n 2, 1) := by decide +kernel
theorem dX6_stands_57 : decode cX6_stands 57 = .ok (.iconst 2, 1) := by decide +kernel
theorem dX6_stands_58 : decode cX6_stands 58 = .ok (.if_icmp .eq 40, 3) := by decide +kernel
theorem dX6_stands_61 : decode cX6_stands 61 = .ok (.iload_n 2, 1) := by decide +kernel
theorem dX6_stands_62 : decode cX6_stands 62 = .ok (.ifCond .ne 11, 3) := by decide +kernel
theorem dX6_stands_65 : decode cX6_stands 65 = .ok (.iload 4, 2) := by decide +kernel
theorem dX6_stands_67 : decode cX6_stands 67 = .ok (.bipush 6, 2) := by decide +kernel
theorem dX6_stands_69 : decode cX6_stands 69 = .ok (.irem, 1) := by decide +kernel
theorem dX6_stands_70 : decode cX6_stands 70 = .ok (.ifCond .eq 28, 3) := by decide +kernel
theorem dX6_stands_73 : decode cX6_stands 73 = .ok (.iload_n 2, 1) := by decide +kernel
theorem dX6_stands_74 : decode cX6_stands 74 = .ok (.iconst 1, 1) := by decide +kernel
theorem dX6_stands_75 : decode cX6_stands 75 = .ok (.if_icmp .ne 27, 3) := by decide +kernel
theorem dX6_stands_78 : decode cX6_stands 78 = .ok (.iload 4, 2) := by decide +kernel
theorem dX6_stands_80 : decode cX6_stands 80 = .ok (.bipush 6, 2) := by decide +kernel
theorem dX6_stands_82 : decode cX6_stands 82 = .ok (.irem, 1) := by decide +kernel
theorem dX6_stands_83 : decode cX6_stands 83 = .ok (.aload_n 0, 1) := by decide +kernel
theorem dX6_stands_84 : decode cX6_stands 84 = .ok (.getfield 7, 3) := by decide +kernel
theorem dX6_stands_87 : decode cX6_stands 87 = .ok (.iload 4, 2) := by decide +kernel
theorem dX6_stands_89 : decode cX6_stands 89 = .ok (.bipush 6, 2) := by decide +kernel
theorem dX6_stands_91 : decode cX6_stands 91 = .ok (.idiv, 1) := by decide +kernel
theorem dX6_stands_92 : decode cX6_stands 92 = .ok (.iaload, 1) := by decide +kernel
theorem dX6_stands_93 : decode cX6_stands 93 = .ok (.iconst 1, 1) := by decide +kernel
theorem dX6_stands_94 : decode cX6_stands 94 = .ok (.isub, 1) := by decide +kernel
theorem dX6_stands_95 : decode cX6_stands 95 = .ok (.if_icmp .ne 7, 3) := by decide +kernel
theorem dX6_stands_98 : decode cX6_stands 98 = .ok (.iconst 1, 1) := by decide +kernel
theorem dX6_stands_99 : decode cX6_stands 99 = .ok (.goto 4, 3) := by decide +kernel
theorem dX6_stands_102 : decode cX6_stands 102 = .ok (.iconst 0, 1) := by decide +kernel
theorem dX6_stands_103 : decode cX6_stands 103 = .ok (.iadd, 1) := by decide +kernel
theorem dX6_stands_104 : decode cX6_stands 104 = .ok (.istore_n 3, 1) := by decide +kernel
theorem dX6_stands_105 : decode cX6_stands 105 = .ok (.iinc 4 1, 3) := by decide +kernel
theorem dX6_stands_108 : decode cX6_stands 108 = .ok (.goto (-82), 3) := by decide +kernel
theorem dX6_stands_111 : decode cX6_stands 111 = .ok (.iload_n 3, 1) := by decide +kernel
theorem dX6_stands_112 : decode cX6_stands 112 = .ok (.ireturn, 1) := by decide +kernel
theorem dX6_isPiece_0 : decode cX6_isPiece 0 = .ok (.iload_n 1, 1) := by decide +kernel
theorem dX6_isPiece_1 : decode cX6_isPiece 1 = .ok (.i2l, 1) := by decide +kernel
theorem dX6_isPiece_2 : decode cX6_isPiece 2 = .ok (.lconst 0, 1) := by decide +kernel
theorem dX6_isPiece_3 : decode cX6_isPiece 3 = .ok (.aload_n 0, 1) := by decide +kernel
theorem dX6_isPiece_4 : decode cX6_isPiece 4 = .ok (.getfield 189, 3) := by decide +kernel
theorem dX6_isPiece_7 : decode cX6_isPiece 7 = .ok (.iconst 1, 1) := by decide +kernel
theorem dX6_isPiece_8 : decode cX6_isPiece 8 = .ok (.isub, 1) := by decide +kernel
theorem dX6_isPiece_9 : decode cX6_isPiece 9 = .ok (.i2l, 1) := by decide +kernel
theorem dX6_isPiece_10 : decode cX6_isPiece 10 = .ok (.invokestatic 159, 3) := by decide +kernel
theorem dX6_isPiece_13 : decode cX6_isPiece 13 = .ok (.ireturn, 1) := by decide +kernel
theorem dX6_newPiece_0 : decode cX6_newPiece 0 = .ok (.aload_n 0, 1) := by decide +kernel
theorem dX6_newPiece_1 : decode cX6_newPiece 1 = .ok (.getfield 189, 3) := by decide +kernel
theorem dX6_newPiece_4 : decode cX6_newPiece 4 = .ok (.istore_n 3, 1) := by decide +kernel
theorem dX6_newPiece_5 : decode cX6_newPiece 5 = .ok (.aload_n 0, 1) := by decide +kernel
theorem dX6_newPiece_6 : decode cX6_newPiece 6 = .ok (.dup, 1) := by decide +kernel
theorem dX6_newPiece_7 : decode cX6_newPiece 7 = .ok (.getfield 189, 3) := by decide +kernel
theorem dX6_newPiece_10 : decode cX6_newPiece 10 = .ok (.iconst 1, 1) := by decide +kernel
theorem dX6_newPiece_11 : decode cX6_newPiece 11 = .ok (.iadd, 1) := by decide +kernel
theorem dX6_newPiece_12 : decode cX6_newPiece 12 = .ok (.putfield 189, 3) := by decide +kernel
theorem dX6_newPiece_15 : decode cX6_newPiece 15 = .ok (.aload_n 0, 1) := by decide +kernel
theorem dX6_newPiece_16 : decode cX6_newPiece 16 = .ok (.getfield 29, 3) := by decide +kernel
theorem dX6_newPiece_19 : decode cX6_newPiece 19 = .ok (.iload_n 3, 1) := by decide +kernel
theorem dX6_newPiece_20 : decode cX6_newPiece 20 = .ok (.iload_n 1, 1) := by decide +kernel
theorem dX6_newPiece_21 : decode cX6_newPiece 21 = .ok (.iastore, 1) := by decide +kernel
theorem dX6_newPiece_22 : decode cX6_newPiece 22 = .ok (.aload_n 0, 1) := by decide +kernel
theorem dX6_newPiece_23 : decode cX6_newPiece 23 = .ok (.getfield 32, 3) := by decide +kernel
theorem dX6_newPiece_26 : decode cX6_newPiece 26 = .ok (.iload_n 3, 1) := by decide +kernel
theorem dX6_newPiece_27 : decode cX6_newPiece 27 = .ok (.iload_n 2, 1) := by decide +kernel
theorem dX6_newPiece_28 : decode cX6_newPiece 28 = .ok (.iastore, 1) := by decide +kernel
theorem dX6_newPiece_29 : decode cX6_newPiece 29 = .ok (.aload_n 0, 1) := by decide +kernel
theorem dX6_newPiece_30 : decode cX6_newPiece 30 = .ok (.getfield 35, 3) := by decide +kernel
theorem dX6_newPiece_33 : decode cX6_newPiece 33 = .ok (.iload_n 3, 1) := by decide +kernel
theorem dX6_newPiece_34 : decode cX6_newPiece 34 = .ok (.aload_n 0, 1) := by decide +kernel
theorem dX6_newPiece_35 : decode cX6_newPiece 35 = .ok (.getfield 192, 3) := by decide +kernel
theorem dX6_newPiece_38 : decode cX6_newPiece 38 = .ok (.iastore, 1) := by decide +kernel
theorem dX6_newPiece_39 : decode cX6_newPiece 39 = .ok (.aload_n 0, 1) := by decide +kernel
theorem dX6_newPiece_40 : decode cX6_newPiece 40 = .ok (.getfield 38, 3) := by decide +kernel
theorem dX6_newPiece_43 : decode cX6_newPiece 43 = .ok (.iload_n 3, 1) := by decide +kernel
theorem dX6_newPiece_44 : decode cX6_newPiece 44 = .ok (.iconst 0, 1) := by decide +kernel
theorem dX6_newPiece_45 : decode cX6_newPiece 45 = .ok (.iastore, 1) := by decide +kernel
theorem dX6_newPiece_46 : decode cX6_newPiece 46 = .ok (.aload_n 0, 1) := by decide +kernel
theorem dX6_newPiece_47 : decode cX6_newPiece 47 = .ok (.getfield 41, 3) := by decide +kernel
theorem dX6_newPiece_50 : decode cX6_newPiece 50 = .ok (.iload_n 3, 1) := by decide +kernel
theorem dX6_newPiece_51 : decode cX6_newPiece 51 = .ok (.iconst 1, 1) := by decide +kernel
theorem dX6_newPiece_52 : decode cX6_newPiece 52 = .ok (.iastore, 1) := by decide +kernel
theorem dX6_newPiece_53 : decode cX6_newPiece 53 = .ok (.iload_n 3, 1) := by decide +kernel
theorem dX6_newPiece_54 : decode cX6_newPiece 54 = .ok (.ireturn, 1) := by decide +kernel
theorem dX6_addPart_0 : decode cX6_addPart 0 = .ok (.aload_n 0, 1) := by decide +kernel
theorem dX6_addPart_1 : decode cX6_addPart 1 = .ok (.getfield 44, 3) := by decide +kernel
theorem dX6_addPart_4 : decode cX6_addPart 4 = .ok (.aload_n 0, 1) := by decide +kernel
theorem dX6_addPart_5 : decode cX6_addPart 5 = .ok (.getfield 192, 3) := by decide +kernel
theorem dX6_addPart_8 : decode cX6_addPart 8 = .ok (.iload_n 2, 1) := by decide +kernel
theorem dX6_addPart_9 : decode cX6_addPart 9 = .ok (.iastore, 1) := by decide +kernel
theorem dX6_addPart_10 : decode cX6_addPart 10 = .ok (.aload_n 0, 1) := by decide +kernel
theorem dX6_addPart_11 : decode cX6_addPart 11 = .ok (.dup, 1) := by decide +kernel
theorem dX6_addPart_12 : decode cX6_addPart 12 = .ok (.getfield 192, 3) := by decide +kernel
theorem dX6_addPart_15 : decode cX6_addPart 15 = .ok (.iconst 1, 1) := by decide +kernel
theorem dX6_addPart_16 : decode cX6_addPart 16 = .ok (.iadd, 1) := by decide +kernel
theorem dX6_addPart_17 : decode cX6_addPart 17 = .ok (.putfield 192, 3) := by decide +kernel
theorem dX6_addPart_20 : decode cX6_addPart 20 = .ok (.aload_n 0, 1) := by decide +kernel
theorem dX6_addPart_21 : decode cX6_addPart 21 = .ok (.getfield 38, 3) := by decide +kernel
theorem dX6_addPart_24 : decode cX6_addPart 24 = .ok (.iload_n 1, 1) := by decide +kernel
theorem dX6_addPart_25 : decode cX6_addPart 25 = .ok (.dup2, 1) := by decide +kernel
theorem dX6_addPart_26 : decode cX6_addPart 26 = .ok (.iaload, 1) := by decide +kernel
theorem dX6_addPart_27 : decode cX6_addPart 27 = .ok (.iconst 1, 1) := by decide +kernel
theorem dX6_addPart_28 : decode cX6_addPart 28 = .ok (.iadd, 1) := by decide +kernel
theorem dX6_addPart_29 : decode cX6_addPart 29 = .ok (.iastore, 1) := by decide +kernel
theorem dX6_addPart_30 : decode cX6_addPart 30 = .ok (.aload_n 0, 1) := by decide +kernel
theorem dX6_addPart_31 : decode cX6_addPart 31 = .ok (.getfield 41, 3) := by decide +kernel
theorem dX6_addPart_34 : decode cX6_addPart 34 = .ok (.iload_n 1, 1) := by decide +kernel
theorem dX6_addPart_35 : decode cX6_addPart 35 = .ok (.dup2, 1) := by decide +kernel
theorem dX6_addPart_36 : decode cX6_addPart 36 = .ok (.iaload, 1) := by decide +kernel
theorem dX6_addPart_37 : decode cX6_addPart 37 = .ok (.aload_n 0, 1) := by decide +kernel
theorem dX6_addPart_38 : decode cX6_addPart 38 = .ok (.getfield 41, 3) := by decide +kernel
theorem dX6_addPart_41 : decode cX6_addPart 41 = .ok (.iload_n 2, 1) := by decide +kernel
theorem dX6_addPart_42 : decode cX6_addPart 42 = .ok (.iaload, 1) := by decide +kernel
theorem dX6_addPart_43 : decode cX6_addPart 43 = .ok (.iadd, 1) := by decide +kernel
theorem dX6_addPart_44 : decode cX6_addPart 44 = .ok (.iastore, 1) := by decide +kernel
theorem dX6_addPart_45 : decode cX6_addPart 45 = .ok (.return_, 1) := by decide +kernel
theorem dX6_deed_0 : decode cX6_deed 0 = .ok (.iload_n 1, 1) := by decide +kernel
theorem dX6_deed_1 : decode cX6_deed 1 = .ok (.i2l, 1) := by decide +kernel
theorem dX6_deed_2 : decode cX6_deed 2 = .ok (.ldc2_w 165, 3) := by decide +kernel
theorem dX6_deed_5 : decode cX6_deed 5 = .ok (.ldc2_w 163, 3) := by decide +kernel
theorem dX6_deed_8 : decode cX6_deed 8 = .ok (.invokestatic 159, 3) := by decide +kernel
theorem dX6_deed_11 : decode cX6_deed 11 = .ok (.ifCond .ne 5, 3) := by decide +kernel
theorem dX6_deed_14 : decode cX6_deed 14 = .ok (.iconst (-1), 1) := by decide +kernel
theorem dX6_deed_15 : decode cX6_deed 15 = .ok (.ireturn, 1) := by decide +kernel
theorem dX6_deed_16 : decode cX6_deed 16 = .ok (.aload_n 0, 1) := by decide +kernel
theorem dX6_deed_17 : decode cX6_deed 17 = .ok (.getfield 189, 3) := by decide +kernel
theorem dX6_deed_20 : decode cX6_deed 20 = .ok (.sipush 200, 3) := by decide +kernel
theorem dX6_deed_23 : decode cX6_deed 23 = .ok (.if_icmp .ne 8, 3) := by decide +kernel
theorem dX6_deed_26 : decode cX6_deed 26 = .ok (.bipush (-2), 2) := by decide +kernel
theorem dX6_deed_28 : decode cX6_deed 28 = .ok (.goto 26, 3) := by decide +kernel
theorem dX6_deed_31 : decode cX6_deed 31 = .ok (.aload_n 0, 1) := by decide +kernel
theorem dX6_deed_32 : decode cX6_deed 32 = .ok (.iload_n 1, 1) := by decide +kernel
theorem dX6_deed_33 : decode cX6_deed 33 = .ok (.ifCond .ge 7, 3) := by decide +kernel
theorem dX6_deed_36 : decode cX6_deed 36 = .ok (.iconst 1, 1) := by decide +kernel
theorem dX6_deed_37 : decode cX6_deed 37 = .ok (.goto 4, 3) := by decide +kernel
theorem dX6_deed_40 : decode cX6_deed 40 = .ok (.iconst 0, 1) := by decide +kernel
theorem dX6_deed_41 : decode cX6_deed 41 = .ok (.iload_n 1, 1) := by decide +kernel
theorem dX6_deed_42 : decode cX6_deed 42 = .ok (.ifCond .ge 8, 3) := by decide +kernel
theorem dX6_deed_45 : decode cX6_deed 45 = .ok (.bipush (-3), 2) := by decide +kernel
theorem dX6_deed_47 : decode cX6_deed 47 = .ok (.goto 4, 3) := by decide +kernel
theorem dX6_deed_50 : decode cX6_deed 50 = .ok (.iload_n 1, 1) := by decide +kernel
theorem dX6_deed_51 : decode cX6_deed 51 = .ok (.invokevirtual 195, 3) := by decide +kernel
theorem dX6_deed_54 : decode cX6_deed 54 = .ok (.ireturn, 1) := by decide +kernel
theorem dX6_join_0 : decode cX6_join 0 = .ok (.iload_n 1, 1) := by decide +kernel
theorem dX6_join_1 : decode cX6_join 1 = .ok (.i2l, 1) := by decide +kernel
theorem dX6_join_2 : decode cX6_join 2 = .ok (.ldc2_w 187, 3) := by decide +kernel
theorem dX6_join_5 : decode cX6_join 5 = .ok (.ldc2_w 199, 3) := by decide +kernel
theorem dX6_join_8 : decode cX6_join 8 = .ok (.invokestatic 159, 3) := by decide +kernel
theorem dX6_join_11 : decode cX6_join 11 = .ok (.ifCond .eq 19, 3) := by decide +kernel
theorem dX6_join_14 : decode cX6_join 14 = .ok (.aload_n 0, 1) := by decide +kernel
theorem dX6_join_15 : decode cX6_join 15 = .ok (.iload_n 2, 1) := by decide +kernel
theorem dX6_join_16 : decode cX6_join 16 = .ok (.invokevirtual 201, 3) := by decide +kernel
theorem dX6_join_19 : decode cX6_join 19 = .ok (.ifCond .eq 11, 3) := by decide +kernel
theorem dX6_join_22 : decode cX6_join 22 = .ok (.aload_n 0, 1) := by decide +kernel
theorem dX6_join_23 : decode cX6_join 23 = .ok (.iload_n 3, 1) := by decide +kernel
theorem dX6_join_24 : decode cX6_join 24 = .ok (.invokevirtual 201, 3) := by decide +kernel
theorem dX6_join_27 : decode cX6_join 27 = .ok (.ifCond .ne 5, 3) := by decide +kernel
theorem dX6_join_30 : decode cX6_join 30 = .ok (.iconst (-1), 1) := by decide +kernel
theorem dX6_join_31 : decode cX6_join 31 = .ok (.ireturn, 1) := by decide +kernel
theorem dX6_join_32 : decode cX6_join 32 = .ok (.aload_n 0, 1) := by decide +kernel
theorem dX6_join_33 : decode cX6_join 33 = .ok (.getfield 189, 3) := by decide +kernel
theorem dX6_join_36 : decode cX6_join 36 = .ok (.sipush 200, 3) := by decide +kernel
theorem dX6_join_39 : decode cX6_join 39 = .ok (.if_icmp .eq 23, 3) := by decide +kernel
theorem dX6_join_42 : decode cX6_join 42 = .ok (.aload_n 0, 1) := by decide +kernel
theorem dX6_join_43 : decode cX6_join 43 = .ok (.getfield 41, 3) := by decide +kernel
theorem dX6_join_46 : decode cX6_join 46 = .ok (.iload_n 2, 1) := by decide +kernel
theorem dX6_join_47 : decode cX6_join 47 = .ok (.iaload, 1) := by decide +kernel
theorem dX6_join_48 : decode cX6_join 48 = .ok (.aload_n 0, 1) := by decide +kernel
theorem dX6_join_49 : decode cX6_join 49 = .ok (.getfield 41, 3) := by decide +kernel
theorem dX6_join_52 : decode cX6_join 52 = .ok (.iload_n 3, 1) := by decide +kernel
theorem dX6_join_53 : decode cX6_join 53 = .ok (.iaload, 1) := by decide +kernel
theorem dX6_join_54 : decode cX6_join 54 = .ok (.iadd, 1) := by decide +kernel
theorem dX6_join_55 : decode cX6_join 55 = .ok (.iconst 1, 1) := by decide +kernel
theorem dX6_join_56 : decode cX6_join 56 = .ok (.iadd, 1) := by decide +kernel
theorem dX6_join_57 : decode cX6_join 57 = .ok (.bipush 60, 2) := by decide +kernel
theorem dX6_join_59 : decode cX6_join 59 = .ok (.if_icmp .le 6, 3) := by decide +kernel
theorem dX6_join_62 : decode cX6_join 62 = .ok (.bipush (-2), 2) := by decide +kernel
theorem dX6_join_64 : decode cX6_join 64 = .ok (.ireturn, 1) := by decide +kernel
theorem dX6_join_65 : decode cX6_join 65 = .ok (.aload_n 0, 1) := by decide +kernel
theorem dX6_join_66 : decode cX6_join 66 = .ok (.iload_n 1, 1) := by decide +kernel
theorem dX6_join_67 : decode cX6_join 67 = .ok (.bipush (-3), 2) := by decide +kernel
theorem dX6_join_69 : decode cX6_join 69 = .ok (.invokevirtual 195, 3) := by decide +kernel
theorem dX6_join_72 : decode cX6_join 72 = .ok (.istore 4, 2) := by decide +kernel
theorem dX6_join_74 : decode cX6_join 74 = .ok (.aload_n 0, 1) := by decide +kernel
theorem dX6_join_75 : decode cX6_join 75 = .ok (.iload 4, 2) := by decide +kernel
theorem dX6_join_77 : decode cX6_join 77 = .ok (.iload_n 2, 1) := by decide +kernel
theorem dX6_join_78 : decode cX6_join 78 = .ok (.invokevirtual 204, 3) := by decide +kernel
theorem dX6_join_81 : decode cX6_join 81 = .ok (.aload_n 0, 1) := by decide +kernel
theorem dX6_join_82 : decode cX6_join 82 = .ok (.iload 4, 2) := by decide +kernel
theorem dX6_join_84 : decode cX6_join 84 = .ok (.iload_n 3, 1) := by decide +kernel
theorem dX6_join_85 : decode cX6_join 85 = .ok (.invokevirtual 204, 3) := by decide +kernel
theorem dX6_join_88 : decode cX6_join 88 = .ok (.iload 4, 2) := by decide +kernel
theorem dX6_join_90 : decode cX6_join 90 = .ok (.ireturn, 1) := by decide +kernel
theorem dX6_more_0 : decode cX6_more 0 = .ok (.aload_n 0, 1) := by decide +kernel
theorem dX6_more_1 : decode cX6_more 1 = .ok (.iload_n 1, 1) := by decide +kernel
theorem dX6_more_2 : decode cX6_more 2 = .ok (.invokevirtual 201, 3) := by decide +kernel
theorem dX6_more_5 : decode cX6_more 5 = .ok (.ifCond .eq 21, 3) := by decide +kernel
theorem dX6_more_8 : decode cX6_more 8 = .ok (.aload_n 0, 1) := by decide +kernel
theorem dX6_more_9 : decode cX6_more 9 = .ok (.iload_n 2, 1) := by decide +kernel
theorem dX6_more_10 : decode cX6_more 10 = .ok (.invokevirtual 201, 3) := by decide +kernel
theorem dX6_more_13 : decode cX6_more 13 = .ok (.ifCond .eq 13, 3) := by decide +kernel
theorem dX6_more_16 : decode cX6_more 16 = .ok (.aload_n 0, 1) := by decide +kernel
theorem dX6_more_17 : decode cX6_more 17 = .ok (.getfield 29, 3) := by decide +kernel
theorem dX6_more_20 : decode cX6_more 20 = .ok (.iload_n 1, 1) := by decide +kernel
theorem dX6_more_21 : decode cX6_more 21 = .ok (.iaload, 1) := by decide +kernel
theorem dX6_more_22 : decode cX6_more 22 = .ok (.iconst 2, 1) := by decide +kernel
theorem dX6_more_23 : decode cX6_more 23 = .ok (.if_icmp .ge 5, 3) := by decide +kernel
theorem dX6_more_26 : decode cX6_more 26 = .ok (.iconst (-1), 1) := by decide +kernel
theorem dX6_more_27 : decode cX6_more 27 = .ok (.ireturn, 1) := by decide +kernel
theorem dX6_more_28 : decode cX6_more 28 = .ok (.aload_n 0, 1) := by decide +kernel
theorem dX6_more_29 : decode cX6_more 29 = .ok (.getfield 189, 3) := by decide +kernel
theorem dX6_more_32 : decode cX6_more 32 = .ok (.sipush 200, 3) := by decide +kernel
theorem dX6_more_35 : decode cX6_more 35 = .ok (.if_icmp .eq 21, 3) := by decide +kernel
theorem dX6_more_38 : decode cX6_more 38 = .ok (.aload_n 0, 1) := by decide +kernel
theorem dX6_more_39 : decode cX6_more 39 = .ok (.getfield 41, 3) := by decide +kernel
theorem dX6_more_42 : decode cX6_more 42 = .ok (.iload_n 1, 1) := by decide +kernel
theorem dX6_more_43 : decode cX6_more 43 = .ok (.iaload, 1) := by decide +kernel
theorem dX6_more_44 : decode cX6_more 44 = .ok (.aload_n 0, 1) := by decide +kernel
theorem dX6_more_45 : decode cX6_more 45 = .ok (.getfield 41, 3) := by decide +kernel
theorem dX6_more_48 : decode cX6_more 48 = .ok (.iload_n 2, 1) := by decide +kernel
theorem dX6_more_49 : decode cX6_more 49 = .ok (.iaload, 1) := by decide +kernel
theorem dX6_more_50 : decode cX6_more 50 = .ok (.iadd, 1) := by decide +kernel
theorem dX6_more_51 : decode cX6_more 51 = .ok (.bipush 60, 2) := by decide +kernel
theorem dX6_more_53 : decode cX6_more 53 = .ok (.if_icmp .le 6, 3) := by decide +kernel
theorem dX6_more_56 : decode cX6_more 56 = .ok (.bipush (-2), 2) := by decide +kernel
theorem dX6_more_58 : decode cX6_more 58 = .ok (.ireturn, 1) := by decide +kernel
theorem dX6_more_59 : decode cX6_more 59 = .ok (.aload_n 0, 1) := by decide +kernel
theorem dX6_more_60 : decode cX6_more 60 = .ok (.aload_n 0, 1) := by decide +kernel
theorem dX6_more_61 : decode cX6_more 61 = .ok (.getfield 29, 3) := by decide +kernel
theorem dX6_more_64 : decode cX6_more 64 = .ok (.iload_n 1, 1) := by decide +kernel
theorem dX6_more_65 : decode cX6_more 65 = .ok (.iaload, 1) := by decide +kernel
theorem dX6_more_66 : decode cX6_more 66 = .ok (.bipush (-3), 2) := by decide +kernel
theorem dX6_more_68 : decode cX6_more 68 = .ok (.invokevirtual 195, 3) := by decide +kernel
theorem dX6_more_71 : decode cX6_more 71 = .ok (.istore_n 3, 1) := by decide +kernel
theorem dX6_more_72 : decode cX6_more 72 = .ok (.iconst 0, 1) := by decide +kernel
theorem dX6_more_73 : decode cX6_more 73 = .ok (.istore 4, 2) := by decide +kernel
theorem dX6_more_75 : decode cX6_more 75 = .ok (.iload 4, 2) := by decide +kernel
theorem dX6_more_77 : decode cX6_more 77 = .ok (.aload_n 0, 1) := by decide +kernel
theorem dX6_more_78 : decode cX6_more 78 = .ok (.getfield 38, 3) := by decide +kernel
theorem dX6_more_81 : decode cX6_more 81 = .ok (.iload_n 1, 1) := by decide +kernel
theorem dX6_more_82 : decode cX6_more 82 = .ok (.iaload, 1) := by decide +kernel
theorem dX6_more_83 : decode cX6_more 83 = .ok (.if_icmp .ge 28, 3) := by decide +kernel
theorem dX6_more_86 : decode cX6_more 86 = .ok (.aload_n 0, 1) := by decide +kernel
theorem dX6_more_87 : decode cX6_more 87 = .ok (.iload_n 3, 1) := by decide +kernel
theorem dX6_more_88 : decode cX6_more 88 = .ok (.aload_n 0, 1) := by decide +kernel
theorem dX6_more_89 : decode cX6_more 89 = .ok (.getfield 44, 3) := by decide +kernel
theorem dX6_more_92 : decode cX6_more 92 = .ok (.aload_n 0, 1) := by decide +kernel
theorem dX6_more_93 : decode cX6_more 93 = .ok (.getfield 35, 3) := by decide +kernel
theorem dX6_more_96 : decode cX6_more 96 = .ok (.iload_n 1, 1) := by decide +kernel
theorem dX6_more_97 : decode cX6_more 97 = .ok (.iaload, 1) := by decide +kernel
theorem dX6_more_98 : decode cX6_more 98 = .ok (.iload 4, 2) := by decide +kernel
theorem dX6_more_100 : decode cX6_more 100 = .ok (.iadd, 1) := by decide +kernel
theorem dX6_more_101 : decode cX6_more 101 = .ok (.iaload, 1) := by decide +kernel
theorem dX6_more_102 : decode cX6_more 102 = .ok (.invokevirtual 204, 3) := by decide +kernel
theorem dX6_more_105 : decode cX6_more 105 = .ok (.iinc 4 1, 3) := by decide +kernel
theorem dX6_more_108 : decode cX6_more 108 = .ok (.goto (-33), 3) := by decide +kernel
theorem dX6_more_111 : decode cX6_more 111 = .ok (.aload_n 0, 1) := by decide +kernel
theorem dX6_more_112 : decode cX6_more 112 = .ok (.iload_n 3, 1) := by decide +kernel
theorem dX6_more_113 : decode cX6_more 113 = .ok (.iload_n 2, 1) := by decide +kernel
theorem dX6_more_114 : decode cX6_more 114 = .ok (.invokevirtual 204, 3) := by decide +kernel
theorem dX6_more_117 : decode cX6_more 117 = .ok (.iload_n 3, 1) := by decide +kernel
theorem dX6_more_118 : decode cX6_more 118 = .ok (.ireturn, 1) := by decide +kernel
theorem dX6_piece_0 : decode cX6_piece 0 = .ok (.aload_n 0, 1) := by decide +kernel
theorem dX6_piece_1 : decode cX6_piece 1 = .ok (.iload_n 1, 1) := by decide +kernel
theorem dX6_piece_2 : decode cX6_piece 2 = .ok (.invokevirtual 201, 3) := by decide +kernel
theorem dX6_piece_5 : decode cX6_piece 5 = .ok (.ifCond .eq 15, 3) := by decide +kernel
theorem dX6_piece_8 : decode cX6_piece 8 = .ok (.iload_n 2, 1) := by decide +kernel
theorem dX6_piece_9 : decode cX6_piece 9 = .ok (.i2l, 1) := by decide +kernel
theorem dX6_piece_10 : decode cX6_piece 10 = .ok (.lconst 0, 1) := by decide +kernel
theorem dX6_piece_11 : decode cX6_piece 11 = .ok (.ldc2_w 208, 3) := by decide +kernel
theorem dX6_piece_14 : decode cX6_piece 14 = .ok (.invokestatic 159, 3) := by decide +kernel
theorem dX6_piece_17 : decode cX6_piece 17 = .ok (.ifCond .ne 5, 3) := by decide +kernel
theorem dX6_piece_20 : decode cX6_piece 20 = .ok (.iconst (-1), 1) := by decide +kernel
theorem dX6_piece_21 : decode cX6_piece 21 = .ok (.ireturn, 1) := by decide +kernel
theorem dX6_piece_22 : decode cX6_piece 22 = .ok (.iload_n 2, 1) := by decide +kernel
theorem dX6_piece_23 : decode cX6_piece 23 = .ok (.tableswitch 57 0 3 #[29, 36, 43, 50], 29) := by decide +kernel
theorem dX6_piece_52 : decode cX6_piece 52 = .ok (.aload_n 0, 1) := by decide +kernel
theorem dX6_piece_53 : decode cX6_piece 53 = .ok (.getfield 29, 3) := by decide +kernel
theorem dX6_piece_56 : decode cX6_piece 56 = .ok (.iload_n 1, 1) := by decide +kernel
theorem dX6_piece_57 : decode cX6_piece 57 = .ok (.iaload, 1) := by decide +kernel
theorem dX6_piece_58 : decode cX6_piece 58 = .ok (.ireturn, 1) := by decide +kernel
theorem dX6_piece_59 : decode cX6_piece 59 = .ok (.aload_n 0, 1) := by decide +kernel
theorem dX6_piece_60 : decode cX6_piece 60 = .ok (.getfield 32, 3) := by decide +kernel
theorem dX6_piece_63 : decode cX6_piece 63 = .ok (.iload_n 1, 1) := by decide +kernel
theorem dX6_piece_64 : decode cX6_piece 64 = .ok (.iaload, 1) := by decide +kernel
theorem dX6_piece_65 : decode cX6_piece 65 = .ok (.ireturn, 1) := by decide +kernel
theorem dX6_piece_66 : decode cX6_piece 66 = .ok (.aload_n 0, 1) := by decide +kernel
theorem dX6_piece_67 : decode cX6_piece 67 = .ok (.getfield 38, 3) := by decide +kernel
theorem dX6_piece_70 : decode cX6_piece 70 = .ok (.iload_n 1, 1) := by decide +kernel
theorem dX6_piece_71 : decode cX6_piece 71 = .ok (.iaload, 1) := by decide +kernel
theorem dX6_piece_72 : decode cX6_piece 72 = .ok (.ireturn, 1) := by decide +kernel
theorem dX6_piece_73 : decode cX6_piece 73 = .ok (.aload_n 0, 1) := by decide +kernel
theorem dX6_piece_74 : decode cX6_piece 74 = .ok (.getfield 41, 3) := by decide +kernel
theorem dX6_piece_77 : decode cX6_piece 77 = .ok (.iload_n 1, 1) := by decide +kernel
theorem dX6_piece_78 : decode cX6_piece 78 = .ok (.iaload, 1) := by decide +kernel
theorem dX6_piece_79 : decode cX6_piece 79 = .ok (.ireturn, 1) := by decide +kernel
theorem dX6_piece_80 : decode cX6_piece 80 = .ok (.iload_n 2, 1) := by decide +kernel
theorem dX6_piece_81 : decode cX6_piece 81 = .ok (.iconst 4, 1) := by decide +kernel
theorem dX6_piece_82 : decode cX6_piece 82 = .ok (.isub, 1) := by decide +kernel
theorem dX6_piece_83 : decode cX6_piece 83 = .ok (.aload_n 0, 1) := by decide +kernel
theorem dX6_piece_84 : decode cX6_piece 84 = .ok (.getfield 38, 3) := by decide +kernel
theorem dX6_piece_87 : decode cX6_piece 87 = .ok (.iload_n 1, 1) := by decide +kernel
theorem dX6_piece_88 : decode cX6_piece 88 = .ok (.iaload, 1) := by decide +kernel
theorem dX6_piece_89 : decode cX6_piece 89 = .ok (.if_icmp .ge 21, 3) := by decide +kernel
theorem dX6_piece_92 : decode cX6_piece 92 = .ok (.aload_n 0, 1) := by decide +kernel
theorem dX6_piece_93 : decode cX6_piece 93 = .ok (.getfield 44, 3) := by decide +kernel
theorem dX6_piece_96 : decode cX6_piece 96 = .ok (.aload_n 0, 1) := by decide +kernel
theorem dX6_piece_97 : decode cX6_piece 97 = .ok (.getfield 35, 3) := by decide +kernel
theorem dX6_piece_100 : decode cX6_piece 100 = .ok (.iload_n 1, 1) := by decide +kernel
theorem dX6_piece_101 : decode cX6_piece 101 = .ok (.iaload, 1) := by decide +kernel
theorem dX6_piece_102 : decode cX6_piece 102 = .ok (.iload_n 2, 1) := by decide +kernel
theorem dX6_piece_103 : decode cX6_piece 103 = .ok (.iadd, 1) := by decide +kernel
theorem dX6_piece_104 : decode cX6_piece 104 = .ok (.iconst 4, 1) := by decide +kernel
theorem dX6_piece_105 : decode cX6_piece 105 = .ok (.isub, 1) := by decide +kernel
theorem dX6_piece_106 : decode cX6_piece 106 = .ok (.iaload, 1) := by decide +kernel
theorem dX6_piece_107 : decode cX6_piece 107 = .ok (.goto 5, 3) := by decide +kernel
theorem dX6_piece_110 : decode cX6_piece 110 = .ok (.bipush (-3), 2) := by decide +kernel
theorem dX6_piece_112 : decode cX6_piece 112 = .ok (.ireturn, 1) := by decide +kernel
theorem dX6_clearTree_0 : decode cX6_clearTree 0 = .ok (.aload_n 0, 1) := by decide +kernel
theorem dX6_clearTree_1 : decode cX6_clearTree 1 = .ok (.iconst 0, 1) := by decide +kernel
theorem dX6_clearTree_2 : decode cX6_clearTree 2 = .ok (.putfield 210, 3) := by decide +kernel
theorem dX6_clearTree_5 : decode cX6_clearTree 5 = .ok (.aload_n 0, 1) := by decide +kernel
theorem dX6_clearTree_6 : decode cX6_clearTree 6 = .ok (.iconst 0, 1) := by decide +kernel
theorem dX6_clearTree_7 : decode cX6_clearTree 7 = .ok (.putfield 213, 3) := by decide +kernel
theorem dX6_clearTree_10 : decode cX6_clearTree 10 = .ok (.return_, 1) := by decide +kernel
theorem dX6_newNode_0 : decode cX6_newNode 0 = .ok (.aload_n 0, 1) := by decide +kernel
theorem dX6_newNode_1 : decode cX6_newNode 1 = .ok (.getfield 47, 3) := by decide +kernel
theorem dX6_newNode_4 : decode cX6_newNode 4 = .ok (.aload_n 0, 1) := by decide +kernel
theorem dX6_newNode_5 : decode cX6_newNode 5 = .ok (.getfield 210, 3) := by decide +kernel
theorem dX6_newNode_8 : decode cX6_newNode 8 = .ok (.iload_n 1, 1) := by decide +kernel
theorem dX6_newNode_9 : decode cX6_newNode 9 = .ok (.iastore, 1) := by decide +kernel
theorem dX6_newNode_10 : decode cX6_newNode 10 = .ok (.aload_n 0, 1) := by decide +kernel
theorem dX6_newNode_11 : decode cX6_newNode 11 = .ok (.getfield 50, 3) := by decide +kernel
theorem dX6_newNode_14 : decode cX6_newNode 14 = .ok (.aload_n 0, 1) := by decide +kernel
theorem dX6_newNode_15 : decode cX6_newNode 15 = .ok (.getfield 210, 3) := by decide +kernel
theorem dX6_newNode_18 : decode cX6_newNode 18 = .ok (.iload_n 2, 1) := by decide +kernel
theorem dX6_newNode_19 : decode cX6_newNode 19 = .ok (.iastore, 1) := by decide +kernel
theorem dX6_newNode_20 : decode cX6_newNode 20 = .ok (.aload_n 0, 1) := by decide +kernel
theorem dX6_newNode_21 : decode cX6_newNode 21 = .ok (.getfield 53, 3) := by decide +kernel
theorem dX6_newNode_24 : decode cX6_newNode 24 = .ok (.aload_n 0, 1) := by decide +kernel
theorem dX6_newNode_25 : decode cX6_newNode 25 = .ok (.getfield 210, 3) := by decide +kernel
theorem dX6_newNode_28 : decode cX6_newNode 28 = .ok (.aload_n 0, 1) := by decide +kernel
theorem dX6_newNode_29 : decode cX6_newNode 29 = .ok (.getfield 213, 3) := by decide +kernel
theorem dX6_newNode_32 : decode cX6_newNode 32 = .ok (.iastore, 1) := by decide +kernel
theorem dX6_newNode_33 : decode cX6_newNode 33 = .ok (.aload_n 0, 1) := by decide +kernel
theorem dX6_newNode_34 : decode cX6_newNode 34 = .ok (.getfield 56, 3) := by decide +kernel
theorem dX6_newNode_37 : decode cX6_newNode 37 = .ok (.aload_n 0, 1) := by decide +kernel
theorem dX6_newNode_38 : decode cX6_newNode 38 = .ok (.getfield 210, 3) := by decide +kernel
theorem dX6_newNode_41 : decode cX6_newNode 41 = .ok (.iconst 0, 1) := by decide +kernel
theorem dX6_newNode_42 : decode cX6_newNode 42 = .ok (.iastore, 1) := by decide +kernel
theorem dX6_newNode_43 : decode cX6_newNode 43 = .ok (.aload_n 0, 1) := by decide +kernel
theorem dX6_newNode_44 : decode cX6_newNode 44 = .ok (.dup, 1) := by decide +kernel
theorem dX6_newNode_45 : decode cX6_newNode 45 = .ok (.getfield 210, 3) := by decide +kernel
theorem dX6_newNode_48 : decode cX6_newNode 48 = .ok (.iconst 1, 1) := by decide +kernel
theorem dX6_newNode_49 : decode cX6_newNode 49 = .ok (.iadd, 1) := by decide +kernel
theorem dX6_newNode_50 : decode cX6_newNode 50 = .ok (.putfield 210, 3) := by decide +kernel
theorem dX6_newNode_53 : decode cX6_newNode 53 = .ok (.aload_n 0, 1) := by decide +kernel
theorem dX6_newNode_54 : decode cX6_newNode 54 = .ok (.getfield 210, 3) := by decide +kernel
theorem dX6_newNode_57 : decode cX6_newNode 57 = .ok (.iconst 1, 1) := by decide +kernel
theorem dX6_newNode_58 : decode cX6_newNode 58 = .ok (.isub, 1) := by decide +kernel
theorem dX6_newNode_59 : decode cX6_newNode 59 = .ok (.ireturn, 1) := by decide +kernel
theorem dX6_expand_0 : decode cX6_expand 0 = .ok (.aload_n 0, 1) := by decide +kernel
theorem dX6_expand_1 : decode cX6_expand 1 = .ok (.aload_n 0, 1) := by decide +kernel
theorem dX6_expand_2 : decode cX6_expand 2 = .ok (.getfield 29, 3) := by decide +kernel
theorem dX6_expand_5 : decode cX6_expand 5 = .ok (.iload_n 1, 1) := by decide +kernel
theorem dX6_expand_6 : decode cX6_expand 6 = .ok (.iaload, 1) := by decide +kernel
theorem dX6_expand_7 : decode cX6_expand 7 = .ok (.aload_n 0, 1) := by decide +kernel
theorem dX6_expand_8 : decode cX6_expand 8 = .ok (.getfield 32, 3) := by decide +kernel
theorem dX6_expand_11 : decode cX6_expand 11 = .ok (.iload_n 1, 1) := by decide +kernel
theorem dX6_expand_12 : decode cX6_expand 12 = .ok (.iaload, 1) := by decide +kernel
theorem dX6_expand_13 : decode cX6_expand 13 = .ok (.invokevirtual 216, 3) := by decide +kernel
theorem dX6_expand_16 : decode cX6_expand 16 = .ok (.istore_n 2, 1) := by decide +kernel
theorem dX6_expand_17 : decode cX6_expand 17 = .ok (.aload_n 0, 1) := by decide +kernel
theorem dX6_expand_18 : decode cX6_expand 18 = .ok (.getfield 62, 3) := by decide +kernel
theorem dX6_expand_21 : decode cX6_expand 21 = .ok (.iload_n 2, 1) := by decide +kernel
theorem dX6_expand_22 : decode cX6_expand 22 = .ok (.iload_n 1, 1) := by decide +kernel
theorem dX6_expand_23 : decode cX6_expand 23 = .ok (.iastore, 1) := by decide +kernel
theorem dX6_expand_24 : decode cX6_expand 24 = .ok (.iload_n 2, 1) := by decide +kernel
theorem dX6_expand_25 : decode cX6_expand 25 = .ok (.istore_n 3, 1) := by decide +kernel
theorem dX6_expand_26 : decode cX6_expand 26 = .ok (.iload_n 3, 1) := by decide +kernel
theorem dX6_expand_27 : decode cX6_expand 27 = .ok (.aload_n 0, 1) := by decide +kernel
theorem dX6_expand_28 : decode cX6_expand 28 = .ok (.getfield 210, 3) := by decide +kernel
theorem dX6_expand_31 : decode cX6_expand 31 = .ok (.if_icmp .ge 163, 3) := by decide +kernel
theorem dX6_expand_34 : decode cX6_expand 34 = .ok (.aload_n 0, 1) := by decide +kernel
theorem dX6_expand_35 : decode cX6_expand 35 = .ok (.getfield 62, 3) := by decide +kernel
theorem dX6_expand_38 : decode cX6_expand 38 = .ok (.iload_n 3, 1) := by decide +kernel
theorem dX6_expand_39 : decode cX6_expand 39 = .ok (.iaload, 1) := by decide +kernel
theorem dX6_expand_40 : decode cX6_expand 40 = .ok (.istore 4, 2) := by decide +kernel
theorem dX6_expand_42 : decode cX6_expand 42 = .ok (.aload_n 0, 1) := by decide +kernel
theorem dX6_expand_43 : decode cX6_expand 43 = .ok (.getfield 53, 3) := by decide +kernel
theorem dX6_expand_46 : decode cX6_expand 46 = .ok (.iload_n 3, 1) := by decide +kernel
theorem dX6_expand_47 : decode cX6_expand 47 = .ok (.aload_n 0, 1) := by decide +kernel
theorem dX6_expand_48 : decode cX6_expand 48 = .ok (.getfield 213, 3) := by decide +kernel
theorem dX6_expand_51 : decode cX6_expand 51 = .ok (.iastore, 1) := by decide +kernel
theorem dX6_expand_52 : decode cX6_expand 52 = .ok (.aload_n 0, 1) := by decide +kernel
theorem dX6_expand_53 : decode cX6_expand 53 = .ok (.getfield 56, 3) := by decide +kernel
theorem dX6_expand_56 : decode cX6_expand 56 = .ok (.iload_n 3, 1) := by decide +kernel
theorem dX6_expand_57 : decode cX6_expand 57 = .ok (.aload_n 0, 1) := by decide +kernel
theorem dX6_expand_58 : decode cX6_expand 58 = .ok (.getfield 38, 3) := by decide +kernel
theorem dX6_expand_61 : decode cX6_expand 61 = .ok (.iload 4, 2) := by decide +kernel
theorem dX6_expand_63 : decode cX6_expand 63 = .ok (.iaload, 1) := by decide +kernel
theorem dX6_expand_64 : decode cX6_expand 64 = .ok (.iastore, 1) := by decide +kernel
theorem dX6_expand_65 : decode cX6_expand 65 = .ok (.iconst 0, 1) := by decide +kernel
theorem dX6_expand_66 : decode cX6_expand 66 = .ok (.istore 5, 2) := by decide +kernel
theorem dX6_expand_68 : decode cX6_expand 68 = .ok (.iload 5, 2) := by decide +kernel
theorem dX6_expand_70 : decode cX6_expand 70 = .ok (.aload_n 0, 1) := by decide +kernel
theorem dX6_expand_71 : decode cX6_expand 71 = .ok (.getfield 38, 3) := by decide +kernel
theorem dX6_expand_74 : decode cX6_expand 74 = .ok (.iload 4, 2) := by decide +kernel
theorem dX6_expand_76 : decode cX6_expand 76 = .ok (.iaload, 1) := by decide +kernel
theorem dX6_expand_77 : decode cX6_expand 77 = .ok (.if_icmp .ge 95, 3) := by decide +kernel
theorem dX6_expand_80 : decode cX6_expand 80 = .ok (.aload_n 0, 1) := by decide +kernel
theorem dX6_expand_81 : decode cX6_expand 81 = .ok (.getfield 44, 3) := by decide +kernel
theorem dX6_expand_84 : decode cX6_expand 84 = .ok (.aload_n 0, 1) := by decide +kernel
theorem dX6_expand_85 : decode cX6_expand 85 = .ok (.getfield 35, 3) := by decide +kernel
theorem dX6_expand_88 : decode cX6_expand 88 = .ok (.iload 4, 2) := by decide +kernel
theorem dX6_expand_90 : decode cX6_expand 90 = .ok (.iaload, 1) := by decide +kernel
theorem dX6_expand_91 : decode cX6_expand 91 = .ok (.iload 5, 2) := by decide +kernel
theorem dX6_expand_93 : decode cX6_expand 93 = .ok (.iadd, 1) := by decide +kernel
theorem dX6_expand_94 : decode cX6_expand 94 = .ok (.iaload, 1) := by decide +kernel
theorem dX6_expand_95 : decode cX6_expand 95 = .ok (.istore 6, 2) := by decide +kernel
theorem dX6_expand_97 : decode cX6_expand 97 = .ok (.aload_n 0, 1) := by decide +kernel
theorem dX6_expand_98 : decode cX6_expand 98 = .ok (.getfield 59, 3) := by decide +kernel
theorem dX6_expand_101 : decode cX6_expand 101 = .ok (.aload_n 0, 1) := by decide +kernel
theorem dX6_expand_102 : decode cX6_expand 102 = .ok (.getfield 213, 3) := by decide +kernel
theorem dX6_expand_105 : decode cX6_expand 105 = .ok (.iload 5, 2) := by decide +kernel
theorem dX6_expand_107 : decode cX6_expand 107 = .ok (.iadd, 1) := by decide +kernel
theorem dX6_expand_108 : decode cX6_expand 108 = .ok (.aload_n 0, 1) := by decide +kernel
theorem dX6_expand_109 : decode cX6_expand 109 = .ok (.getfield 210, 3) := by decide +kernel
theorem dX6_expand_112 : decode cX6_expand 112 = .ok (.iastore, 1) := by decide +kernel
theorem dX6_expand_113 : decode cX6_expand 113 = .ok (.aload_n 0, 1) := by decide +kernel
theorem dX6_expand_114 : decode cX6_expand 114 = .ok (.getfield 62, 3) := by decide +kernel
theorem dX6_expand_117 : decode cX6_expand 117 = .ok (.aload_n 0, 1) := by decide +kernel
theorem dX6_expand_118 : decode cX6_expand 118 = .ok (.getfield 210, 3) := by decide +kernel
theorem dX6_expand_121 : decode cX6_expand 121 = .ok (.iload 6, 2) := by decide +kernel
theorem dX6_expand_123 : decode cX6_expand 123 = .ok (.iastore, 1) := by decide +kernel
theorem dX6_expand_124 : decode cX6_expand 124 = .ok (.aload_n 0, 1) := by decide +kernel
theorem dX6_expand_125 : decode cX6_expand 125 = .ok (.getfield 47, 3) := by decide +kernel
theorem dX6_expand_128 : decode cX6_expand 128 = .ok (.aload_n 0, 1) := by decide +kernel
theorem dX6_expand_129 : decode cX6_expand 129 = .ok (.getfield 210, 3) := by decide +kernel
theorem dX6_expand_132 : decode cX6_expand 132 = .ok (.aload_n 0, 1) := by decide +kernel
theorem dX6_expand_133 : decode cX6_expand 133 = .ok (.getfield 29, 3) := by decide +kernel
theorem dX6_expand_136 : decode cX6_expand 136 = .ok (.iload 6, 2) := by decide +kernel
theorem dX6_expand_138 : decode cX6_expand 138 = .ok (.iaload, 1) := by decide +kernel
theorem dX6_expand_139 : decode cX6_expand 139 = .ok (.iastore, 1) := by decide +kernel
theorem dX6_expand_140 : decode cX6_expand 140 = .ok (.aload_n 0, 1) := by decide +kernel
theorem dX6_expand_141 : decode cX6_expand 141 = .ok (.getfield 50, 3) := by decide +kernel
theorem dX6_expand_144 : decode cX6_expand 144 = .ok (.aload_n 0, 1) := by decide +kernel
theorem dX6_expand_145 : decode cX6_expand 145 = .ok (.getfield 210, 3) := by decide +kernel
theorem dX6_expand_148 : decode cX6_expand 148 = .ok (.aload_n 0, 1) := by decide +kernel
theorem dX6_expand_149 : decode cX6_expand 149 = .ok (.getfield 32, 3) := by decide +kernel
theorem dX6_expand_152 : decode cX6_expand 152 = .ok (.iload 6, 2) := by decide +kernel
theorem dX6_expand_154 : decode cX6_expand 154 = .ok (.iaload, 1) := by decide +kernel
theorem dX6_expand_155 : decode cX6_expand 155 = .ok (.iastore, 1) := by decide +kernel
theorem dX6_expand_156 : decode cX6_expand 156 = .ok (.aload_n 0, 1) := by decide +kernel
theorem dX6_expand_157 : decode cX6_expand 157 = .ok (.dup, 1) := by decide +kernel
theorem dX6_expand_158 : decode cX6_expand 158 = .ok (.getfield 210, 3) := by decide +kernel
theorem dX6_expand_161 : decode cX6_expand 161 = .ok (.iconst 1, 1) := by decide +kernel
theorem dX6_expand_162 : decode cX6_expand 162 = .ok (.iadd, 1) := by decide +kernel
theorem dX6_expand_163 : decode cX6_expand 163 = .ok (.putfield 210, 3) := by decide +kernel
theorem dX6_expand_166 : decode cX6_expand 166 = .ok (.iinc 5 1, 3) := by decide +kernel
theorem dX6_expand_169 : decode cX6_expand 169 = .ok (.goto (-101), 3) := by decide +kernel
theorem dX6_expand_172 : decode cX6_expand 172 = .ok (.aload_n 0, 1) := by decide +kernel
theorem dX6_expand_173 : decode cX6_expand 173 = .ok (.dup, 1) := by decide +kernel
theorem dX6_expand_174 : decode cX6_expand 174 = .ok (.getfield 213, 3) := by decide +kernel
theorem dX6_expand_177 : decode cX6_expand 177 = .ok (.aload_n 0, 1) := by decide +kernel
theorem dX6_expand_178 : decode cX6_expand 178 = .ok (.getfield 38, 3) := by decide +kernel
theorem dX6_expand_181 : decode cX6_expand 181 = .ok (.iload 4, 2) := by decide +kernel
theorem dX6_expand_183 : decode cX6_expand 183 = .ok (.iaload, 1) := by decide +kernel
theorem dX6_expand_184 : decode cX6_expand 184 = .ok (.iadd, 1) := by decide +kernel
theorem dX6_expand_185 : decode cX6_expand 185 = .ok (.putfield 213, 3) := by decide +kernel
theorem dX6_expand_188 : decode cX6_expand 188 = .ok (.iinc 3 1, 3) := by decide +kernel
theorem dX6_expand_191 : decode cX6_expand 191 = .ok (.goto (-165), 3) := by decide +kernel
theorem dX6_expand_194 : decode cX6_expand 194 = .ok (.iload_n 2, 1) := by decide +kernel
theorem dX6_expand_195 : decode cX6_expand 195 = .ok (.ireturn, 1) := by decide +kernel
theorem dX6_compare_0 : decode cX6_compare 0 = .ok (.aload_n 0, 1) := by decide +kernel
theorem dX6_compare_1 : decode cX6_compare 1 = .ok (.getfield 65, 3) := by decide +kernel
theorem dX6_compare_4 : decode cX6_compare 4 = .ok (.iconst 0, 1) := by decide +kernel
theorem dX6_compare_5 : decode cX6_compare 5 = .ok (.iload_n 1, 1) := by decide +kernel
theorem dX6_compare_6 : decode cX6_compare 6 = .ok (.iastore, 1) := by decide +kernel
theorem dX6_compare_7 : decode cX6_compare 7 = .ok (.aload_n 0, 1) := by decide +kernel
theorem dX6_compare_8 : decode cX6_compare 8 = .ok (.getfield 68, 3) := by decide +kernel
theorem dX6_compare_11 : decode cX6_compare 11 = .ok (.iconst 0, 1) := by decide +kernel
theorem dX6_compare_12 : decode cX6_compare 12 = .ok (.iload_n 2, 1) := by decide +kernel
theorem dX6_compare_13 : decode cX6_compare 13 = .ok (.iastore, 1) := by decide +kernel
theorem dX6_compare_14 : decode cX6_compare 14 = .ok (.iconst 1, 1) := by decide +kernel
theorem dX6_compare_15 : decode cX6_compare 15 = .ok (.istore_n 3, 1) := by decide +kernel
theorem dX6_compare_16 : decode cX6_compare 16 = .ok (.iload_n 3, 1) := by decide +kernel
theorem dX6_compare_17 : decode cX6_compare 17 = .ok (.ifCond .le 191, 3) := by decide +kernel
theorem dX6_compare_20 : decode cX6_compare 20 = .ok (.iinc 3 (-1), 3) := by decide +kernel
theorem dX6_compare_23 : decode cX6_compare 23 = .ok (.aload_n 0, 1) := by decide +kernel
theorem dX6_compare_24 : decode cX6_compare 24 = .ok (.getfield 65, 3) := by decide +kernel
theorem dX6_compare_27 : decode cX6_compare 27 = .ok (.iload_n 3, 1) := by decide +kernel
theorem dX6_compare_28 : decode cX6_compare 28 = .ok (.iaload, 1) := by decide +kernel
theorem dX6_compare_29 : decode cX6_compare 29 = .ok (.istore 4, 2) := by decide +kernel
theorem dX6_compare_31 : decode cX6_compare 31 = .ok (.aload_n 0, 1) := by decide +kernel
theorem dX6_compare_32 : decode cX6_compare 32 = .ok (.getfield 68, 3) := by decide +kernel
theorem dX6_compare_35 : decode cX6_compare 35 = .ok (.iload_n 3, 1) := by decide +kernel
theorem dX6_compare_36 : decode cX6_compare 36 = .ok (.iaload, 1) := by decide +kernel
theorem dX6_compare_37 : decode cX6_compare 37 = .ok (.istore 5, 2) := by decide +kernel
theorem dX6_compare_39 : decode cX6_compare 39 = .ok (.aload_n 0, 1) := by decide +kernel
theorem dX6_compare_40 : decode cX6_compare 40 = .ok (.getfield 47, 3) := by decide +kernel
theorem dX6_compare_43 : decode cX6_compare 43 = .ok (.iload 4, 2) := by decide +kernel
theorem dX6_compare_45 : decode cX6_compare 45 = .ok (.iaload, 1) := by decide +kernel
theorem dX6_compare_46 : decode cX6_compare 46 = .ok (.aload_n 0, 1) := by decide +kernel
theorem dX6_compare_47 : decode cX6_compare 47 = .ok (.getfield 47, 3) := by decide +kernel
theorem dX6_compare_50 : decode cX6_compare 50 = .ok (.iload 5, 2) := by decide +kernel
theorem dX6_compare_52 : decode cX6_compare 52 = .ok (.iaload, 1) := by decide +kernel
theorem dX6_compare_53 : decode cX6_compare 53 = .ok (.if_icmp .eq 19, 3) := by decide +kernel
theorem dX6_compare_56 : decode cX6_compare 56 = .ok (.aload_n 0, 1) := by decide +kernel
theorem dX6_compare_57 : decode cX6_compare 57 = .ok (.getfield 47, 3) := by decide +kernel
theorem dX6_compare_60 : decode cX6_compare 60 = .ok (.iload 4, 2) := by decide +kernel
theorem dX6_compare_62 : decode cX6_compare 62 = .ok (.iaload, 1) := by decide +kernel
theorem dX6_compare_63 : decode cX6_compare 63 = .ok (.aload_n 0, 1) := by decide +kernel
theorem dX6_compare_64 : decode cX6_compare 64 = .ok (.getfield 47, 3) := by decide +kernel
theorem dX6_compare_67 : decode cX6_compare 67 = .ok (.iload 5, 2) := by decide +kernel
theorem dX6_compare_69 : decode cX6_compare 69 = .ok (.iaload, 1) := by decide +kernel
theorem dX6_compare_70 : decode cX6_compare 70 = .ok (.isub, 1) := by decide +kernel
theorem dX6_compare_71 : decode cX6_compare 71 = .ok (.ireturn, 1) := by decide +kernel
theorem dX6_compare_72 : decode cX6_compare 72 = .ok (.aload_n 0, 1) := by decide +kernel
theorem dX6_compare_73 : decode cX6_compare 73 = .ok (.getfield 50, 3) := by decide +kernel
theorem dX6_compare_76 : decode cX6_compare 76 = .ok (.iload 4, 2) := by decide +kernel
theorem dX6_compare_78 : decode cX6_compare 78 = .ok (.iaload, 1) := by decide +kernel
theorem dX6_compare_79 : decode cX6_compare 79 = .ok (.aload_n 0, 1) := by decide +kernel
theorem dX6_compare_80 : decode cX6_compare 80 = .ok (.getfield 50, 3) := by decide +kernel
theorem dX6_compare_83 : decode cX6_compare 83 = .ok (.iload 5, 2) := by decide +kernel
theorem dX6_compare_85 : decode cX6_compare 85 = .ok (.iaload, 1) := by decide +kernel
theorem dX6_compare_86 : decode cX6_compare 86 = .ok (.if_icmp .eq 19, 3) := by decide +kernel
theorem dX6_compare_89 : decode cX6_compare 89 = .ok (.aload_n 0, 1) := by decide +kernel
theorem dX6_compare_90 : decode cX6_compare 90 = .ok (.getfield 50, 3) := by decide +kernel
theorem dX6_compare_93 : decode cX6_compare 93 = .ok (.iload 4, 2) := by decide +kernel
theorem dX6_compare_95 : decode cX6_compare 95 = .ok (.iaload, 1) := by decide +kernel
theorem dX6_compare_96 : decode cX6_compare 96 = .ok (.aload_n 0, 1) := by decide +kernel
theorem dX6_compare_97 : decode cX6_compare 97 = .ok (.getfield 50, 3) := by decide +kernel
theorem dX6_compare_100 : decode cX6_compare 100 = .ok (.iload 5, 2) := by decide +kernel
theorem dX6_compare_102 : decode cX6_compare 102 = .ok (.iaload, 1) := by decide +kernel
theorem dX6_compare_103 : decode cX6_compare 103 = .ok (.isub, 1) := by decide +kernel
theorem dX6_compare_104 : decode cX6_compare 104 = .ok (.ireturn, 1) := by decide +kernel
theorem dX6_compare_105 : decode cX6_compare 105 = .ok (.aload_n 0, 1) := by decide +kernel
theorem dX6_compare_106 : decode cX6_compare 106 = .ok (.getfield 56, 3) := by decide +kernel
theorem dX6_compare_109 : decode cX6_compare 109 = .ok (.iload 4, 2) := by decide +kernel
theorem dX6_compare_111 : decode cX6_compare 111 = .ok (.iaload, 1) := by decide +kernel
theorem dX6_compare_112 : decode cX6_compare 112 = .ok (.aload_n 0, 1) := by decide +kernel
theorem dX6_compare_113 : decode cX6_compare 113 = .ok (.getfield 56, 3) := by decide +kernel
theorem dX6_compare_116 : decode cX6_compare 116 = .ok (.iload 5, 2) := by decide +kernel
theorem dX6_compare_118 : decode cX6_compare 118 = .ok (.iaload, 1) := by decide +kernel
theorem dX6_compare_119 : decode cX6_compare 119 = .ok (.if_icmp .eq 19, 3) := by decide +kernel
theorem dX6_compare_122 : decode cX6_compare 122 = .ok (.aload_n 0, 1) := by decide +kernel
theorem dX6_compare_123 : decode cX6_compare 123 = .ok (.getfield 56, 3) := by decide +kernel
theorem dX6_compare_126 : decode cX6_compare 126 = .ok (.iload 4, 2) := by decide +kernel
theorem dX6_compare_128 : decode cX6_compare 128 = .ok (.iaload, 1) := by decide +kernel
theorem dX6_compare_129 : decode cX6_compare 129 = .ok (.aload_n 0, 1) := by decide +kernel
theorem dX6_compare_130 : decode cX6_compare 130 = .ok (.getfield 56, 3) := by decide +kernel
theorem dX6_compare_133 : decode cX6_compare 133 = .ok (.iload 5, 2) := by decide +kernel
theorem dX6_compare_135 : decode cX6_compare 135 = .ok (.iaload, 1) := by decide +kernel
theorem dX6_compare_136 : decode cX6_compare 136 = .ok (.isub, 1) := by decide +kernel
theorem dX6_compare_137 : decode cX6_compare 137 = .ok (.ireturn, 1) := by decide +kernel
theorem dX6_compare_138 : decode cX6_compare 138 = .ok (.aload_n 0, 1) := by decide +kernel
theorem dX6_compare_139 : decode cX6_compare 139 = .ok (.getfield 56, 3) := by decide +kernel
theorem dX6_compare_142 : decode cX6_compare 142 = .ok (.iload 4, 2) := by decide +kernel
theorem dX6_compare_144 : decode cX6_compare 144 = .ok (.iaload, 1) := by decide +kernel
theorem dX6_compare_145 : decode cX6_compare 145 = .ok (.iconst 1, 1) := by decide +kernel
theorem dX6_compare_146 : decode cX6_compare 146 = .ok (.isub, 1) := by decide +kernel
theorem dX6_compare_147 : decode cX6_compare 147 = .ok (.istore 6, 2) := by decide +kernel
theorem dX6_compare_149 : decode cX6_compare 149 = .ok (.iload 6, 2) := by decide +kernel
theorem dX6_compare_151 : decode cX6_compare 151 = .ok (.ifCond .lt 54, 3) := by decide +kernel
theorem dX6_compare_154 : decode cX6_compare 154 = .ok (.aload_n 0, 1) := by decide +kernel
theorem dX6_compare_155 : decode cX6_compare 155 = .ok (.getfield 65, 3) := by decide +kernel
theorem dX6_compare_158 : decode cX6_compare 158 = .ok (.iload_n 3, 1) := by decide +kernel
theorem dX6_compare_159 : decode cX6_compare 159 = .ok (.aload_n 0, 1) := by decide +kernel
theorem dX6_compare_160 : decode cX6_compare 160 = .ok (.getfield 59, 3) := by decide +kernel
theorem dX6_compare_163 : decode cX6_compare 163 = .ok (.aload_n 0, 1) := by decide +kernel
theorem dX6_compare_164 : decode cX6_compare 164 = .ok (.getfield 53, 3) := by decide +kernel
theorem dX6_compare_167 : decode cX6_compare 167 = .ok (.iload 4, 2) := by decide +kernel
theorem dX6_compare_169 : decode cX6_compare 169 = .ok (.iaload, 1) := by decide +kernel
theorem dX6_compare_170 : decode cX6_compare 170 = .ok (.iload 6, 2) := by decide +kernel
theorem dX6_compare_172 : decode cX6_compare 172 = .ok (.iadd, 1) := by decide +kernel
theorem dX6_compare_173 : decode cX6_compare 173 = .ok (.iaload, 1) := by decide +kernel
theorem dX6_compare_174 : decode cX6_compare 174 = .ok (.iastore, 1) := by decide +kernel
theorem dX6_compare_175 : decode cX6_compare 175 = .ok (.aload_n 0, 1) := by decide +kernel
theorem dX6_compare_176 : decode cX6_compare 176 = .ok (.getfield 68, 3) := by decide +kernel
theorem dX6_compare_179 : decode cX6_compare 179 = .ok (.iload_n 3, 1) := by decide +kernel
theorem dX6_compare_180 : decode cX6_compare 180 = .ok (.aload_n 0, 1) := by decide +kernel
theorem dX6_compare_181 : decode cX6_compare 181 = .ok (.getfield 59, 3) := by decide +kernel
theorem dX6_compare_184 : decode cX6_compare 184 = .ok (.aload_n 0, 1) := by decide +kernel
theorem dX6_compare_185 : decode cX6_compare 185 = .ok (.getfield 53, 3) := by decide +kernel
theorem dX6_compare_188 : decode cX6_compare 188 = .ok (.iload 5, 2) := by decide +kernel
theorem dX6_compare_190 : decode cX6_compare 190 = .ok (.iaload, 1) := by decide +kernel
theorem dX6_compare_191 : decode cX6_compare 191 = .ok (.iload 6, 2) := by decide +kernel
theorem dX6_compare_193 : decode cX6_compare 193 = .ok (.iadd, 1) := by decide +kernel
theorem dX6_compare_194 : decode cX6_compare 194 = .ok (.iaload, 1) := by decide +kernel
theorem dX6_compare_195 : decode cX6_compare 195 = .ok (.iastore, 1) := by decide +kernel
theorem dX6_compare_196 : decode cX6_compare 196 = .ok (.iinc 3 1, 3) := by decide +kernel
theorem dX6_compare_199 : decode cX6_compare 199 = .ok (.iinc 6 (-1), 3) := by decide +kernel
theorem dX6_compare_202 : decode cX6_compare 202 = .ok (.goto (-53), 3) := by decide +kernel
theorem dX6_compare_205 : decode cX6_compare 205 = .ok (.goto (-189), 3) := by decide +kernel
theorem dX6_compare_208 : decode cX6_compare 208 = .ok (.iconst 0, 1) := by decide +kernel
theorem dX6_compare_209 : decode cX6_compare 209 = .ok (.ireturn, 1) := by decide +kernel
theorem dX6_like_0 : decode cX6_like 0 = .ok (.aload_n 0, 1) := by decide +kernel
theorem dX6_like_1 : decode cX6_like 1 = .ok (.iload_n 1, 1) := by decide +kernel
theorem dX6_like_2 : decode cX6_like 2 = .ok (.invokevirtual 201, 3) := by decide +kernel
theorem dX6_like_5 : decode cX6_like 5 = .ok (.ifCond .eq 11, 3) := by decide +kernel
theorem dX6_like_8 : decode cX6_like 8 = .ok (.aload_n 0, 1) := by decide +kernel
theorem dX6_like_9 : decode cX6_like 9 = .ok (.iload_n 2, 1) := by decide +kernel
theorem dX6_like_10 : decode cX6_like 10 = .ok (.invokevirtual 201, 3) := by decide +kernel
theorem dX6_like_13 : decode cX6_like 13 = .ok (.ifCond .ne 5, 3) := by decide +kernel
theorem dX6_like_16 : decode cX6_like 16 = .ok (.iconst (-1), 1) := by decide +kernel
theorem dX6_like_17 : decode cX6_like 17 = .ok (.ireturn, 1) := by decide +kernel
theorem dX6_like_18 : decode cX6_like 18 = .ok (.aload_n 0, 1) := by decide +kernel
theorem dX6_like_19 : decode cX6_like 19 = .ok (.invokevirtual 219, 3) := by decide +kernel
theorem dX6_like_22 : decode cX6_like 22 = .ok (.aload_n 0, 1) := by decide +kernel
theorem dX6_like_23 : decode cX6_like 23 = .ok (.iload_n 1, 1) := by decide +kernel
theorem dX6_like_24 : decode cX6_like 24 = .ok (.invokevirtual 222, 3) := by decide +kernel
theorem dX6_like_27 : decode cX6_like 27 = .ok (.istore_n 3, 1) := by decide +kernel
theorem dX6_like_28 : decode cX6_like 28 = .ok (.aload_n 0, 1) := by decide +kernel
theorem dX6_like_29 : decode cX6_like 29 = .ok (.iload_n 2, 1) := by decide +kernel
theorem dX6_like_30 : decode cX6_like 30 = .ok (.invokevirtual 222, 3) := by decide +kernel
theorem dX6_like_33 : decode cX6_like 33 = .ok (.istore 4, 2) := by decide +kernel
theorem dX6_like_35 : decode cX6_like 35 = .ok (.aload_n 0, 1) := by decide +kernel
theorem dX6_like_36 : decode cX6_like 36 = .ok (.iload_n 3, 1) := by decide +kernel
theorem dX6_like_37 : decode cX6_like 37 = .ok (.iload 4, 2) := by decide +kernel
theorem dX6_like_39 : decode cX6_like 39 = .ok (.invokevirtual 226, 3) := by decide +kernel
theorem dX6_like_42 : decode cX6_like 42 = .ok (.ifCond .ne 7, 3) := by decide +kernel
theorem dX6_like_45 : decode cX6_like 45 = .ok (.iconst 1, 1) := by decide +kernel
theorem dX6_like_46 : decode cX6_like 46 = .ok (.goto 4, 3) := by decide +kernel
theorem dX6_like_49 : decode cX6_like 49 = .ok (.iconst 0, 1) := by decide +kernel
theorem dX6_like_50 : decode cX6_like 50 = .ok (.ireturn, 1) := by decide +kernel
theorem dX6_gathers_0 : decode cX6_gathers 0 = .ok (.iload_n 1, 1) := by decide +kernel
theorem dX6_gathers_1 : decode cX6_gathers 1 = .ok (.iconst 5, 1) := by decide +kernel
theorem dX6_gathers_2 : decode cX6_gathers 2 = .ok (.if_icmp .eq 22, 3) := by decide +kernel
theorem dX6_gathers_5 : decode cX6_gathers 5 = .ok (.iload_n 1, 1) := by decide +kernel
theorem dX6_gathers_6 : decode cX6_gathers 6 = .ok (.iconst 3, 1) := by decide +kernel
theorem dX6_gathers_7 : decode cX6_gathers 7 = .ok (.if_icmp .eq 17, 3) := by decide +kernel
theorem dX6_gathers_10 : decode cX6_gathers 10 = .ok (.aload_n 0, 1) := by decide +kernel
theorem dX6_gathers_11 : decode cX6_gathers 11 = .ok (.getfield 47, 3) := by decide +kernel
theorem dX6_gathers_14 : decode cX6_gathers 14 = .ok (.iload_n 2, 1) := by decide +kernel
theorem dX6_gathers_15 : decode cX6_gathers 15 = .ok (.iaload, 1) := by decide +kernel
theorem dX6_gathers_16 : decode cX6_gathers 16 = .ok (.iconst 1, 1) := by decide +kernel
theorem dX6_gathers_17 : decode cX6_gathers 17 = .ok (.if_icmp .ne 7, 3) := by decide +kernel
theorem dX6_gathers_20 : decode cX6_gathers 20 = .ok (.iconst 1, 1) := by decide +kernel
theorem dX6_gathers_21 : decode cX6_gathers 21 = .ok (.goto 4, 3) := by decide +kernel
theorem dX6_gathers_24 : decode cX6_gathers 24 = .ok (.iconst 0, 1) := by decide +kernel
theorem dX6_gathers_25 : decode cX6_gathers 25 = .ok (.istore_n 3, 1) := by decide +kernel
theorem dX6_gathers_26 : decode cX6_gathers 26 = .ok (.iload_n 3, 1) := by decide +kernel
theorem dX6_gathers_27 : decode cX6_gathers 27 = .ok (.ifCond .eq 4, 3) := by decide +kernel
theorem dX6_gathers_30 : decode cX6_gathers 30 = .ok (.return_, 1) := by decide +kernel
theorem dX6_gathers_31 : decode cX6_gathers 31 = .ok (.iload_n 1, 1) := by decide +kernel
theorem dX6_gathers_32 : decode cX6_gathers 32 = .ok (.iconst 5, 1) := by decide +kernel
theorem dX6_gathers_33 : decode cX6_gathers 33 = .ok (.if_icmp .eq 55, 3) := by decide +kernel
theorem dX6_gathers_36 : decode cX6_gathers 36 = .ok (.aload_n 0, 1) := by decide +kernel
theorem dX6_gathers_37 : decode cX6_gathers 37 = .ok (.getfield 47, 3) := by decide +kernel
theorem dX6_gathers_40 : decode cX6_gathers 40 = .ok (.iload_n 2, 1) := by decide +kernel
theorem dX6_gathers_41 : decode cX6_gathers 41 = .ok (.iaload, 1) := by decide +kernel
theorem dX6_gathers_42 : decode cX6_gathers 42 = .ok (.iload_n 1, 1) := by decide +kernel
theorem dX6_gathers_43 : decode cX6_gathers 43 = .ok (.if_icmp .ne 45, 3) := by decide +kernel
theorem dX6_gathers_46 : decode cX6_gathers 46 = .ok (.iconst 0, 1) := by decide +kernel
theorem dX6_gathers_47 : decode cX6_gathers 47 = .ok (.istore 4, 2) := by decide +kernel
theorem dX6_gathers_49 : decode cX6_gathers 49 = .ok (.iload 4, 2) := by decide +kernel
theorem dX6_gathers_51 : decode cX6_gathers 51 = .ok (.aload_n 0, 1) := by decide +kernel
theorem dX6_gathers_52 : decode cX6_gathers 52 = .ok (.getfield 56, 3) := by decide +kernel
theorem dX6_gathers_55 : decode cX6_gathers 55 = .ok (.iload_n 2, 1) := by decide +kernel
theorem dX6_gathers_56 : decode cX6_gathers 56 = .ok (.iaload, 1) := by decide +kernel
theorem dX6_gathers_57 : decode cX6_gathers 57 = .ok (.if_icmp .ge 28, 3) := by decide +kernel
theorem dX6_gathers_60 : decode cX6_gathers 60 = .ok (.aload_n 0, 1) := by decide +kernel
theorem dX6_gathers_61 : decode cX6_gathers 61 = .ok (.iload_n 1, 1) := by decide +kernel
theorem dX6_gathers_62 : decode cX6_gathers 62 = .ok (.aload_n 0, 1) := by decide +kernel
theorem dX6_gathers_63 : decode cX6_gathers 63 = .ok (.getfield 59, 3) := by decide +kernel
theorem dX6_gathers_66 : decode cX6_gathers 66 = .ok (.aload_n 0, 1) := by decide +kernel
theorem dX6_gathers_67 : decode cX6_gathers 67 = .ok (.getfield 53, 3) := by decide +kernel
theorem dX6_gathers_70 : decode cX6_gathers 70 = .ok (.iload_n 2, 1) := by decide +kernel
theorem dX6_gathers_71 : decode cX6_gathers 71 = .ok (.iaload, 1) := by decide +kernel
theorem dX6_gathers_72 : decode cX6_gathers 72 = .ok (.iload 4, 2) := by decide +kernel
theorem dX6_gathers_74 : decode cX6_gathers 74 = .ok (.iadd, 1) := by decide +kernel
theorem dX6_gathers_75 : decode cX6_gathers 75 = .ok (.iaload, 1) := by decide +kernel
theorem dX6_gathers_76 : decode cX6_gathers 76 = .ok (.invokevirtual 229, 3) := by decide +kernel
theorem dX6_gathers_79 : decode cX6_gathers 79 = .ok (.iinc 4 1, 3) := by decide +kernel
theorem dX6_gathers_82 : decode cX6_gathers 82 = .ok (.goto (-33), 3) := by decide +kernel
theorem dX6_gathers_85 : decode cX6_gathers 85 = .ok (.goto 9, 3) := by decide +kernel
theorem dX6_gathers_88 : decode cX6_gathers 88 = .ok (.aload_n 0, 1) := by decide +kernel
theorem dX6_gathers_89 : decode cX6_gathers 89 = .ok (.iload_n 1, 1) := by decide +kernel
theorem dX6_gathers_90 : decode cX6_gathers 90 = .ok (.iload_n 2, 1) := by decide +kernel
theorem dX6_gathers_91 : decode cX6_gathers 91 = .ok (.invokevirtual 229, 3) := by decide +kernel
theorem dX6_gathers_94 : decode cX6_gathers 94 = .ok (.return_, 1) := by decide +kernel
theorem dX6_gathers0_0 : decode cX6_gathers0 0 = .ok (.iconst 0, 1) := by decide +kernel
theorem dX6_gathers0_1 : decode cX6_gathers0 1 = .ok (.istore_n 3, 1) := by decide +kernel
theorem dX6_gathers0_2 : decode cX6_gathers0 2 = .ok (.iconst 0, 1) := by decide +kernel
theorem dX6_gathers0_3 : decode cX6_gathers0 3 = .ok (.istore 4, 2) := by decide +kernel
theorem dX6_gathers0_5 : decode cX6_gathers0 5 = .ok (.iload 4, 2) := by decide +kernel
theorem dX6_gathers0_7 : decode cX6_gathers0 7 = .ok (.aload_n 0, 1) := by decide +kernel
theorem dX6_gathers0_8 : decode cX6_gathers0 8 = .ok (.getfield 232, 3) := by decide +kernel
theorem dX6_gathers0_11 : decode cX6_gathers0 11 = .ok (.if_icmp .ge 39, 3) := by decide +kernel
theorem dX6_gathers0_14 : decode cX6_gathers0 14 = .ok (.iload_n 3, 1) := by decide +kernel
theorem dX6_gathers0_15 : decode cX6_gathers0 15 = .ok (.ifCond .ne 23, 3) := by decide +kernel
theorem dX6_gathers0_18 : decode cX6_gathers0 18 = .ok (.iload_n 1, 1) := by decide +kernel
theorem dX6_gathers0_19 : decode cX6_gathers0 19 = .ok (.iconst 3, 1) := by decide +kernel
theorem dX6_gathers0_20 : decode cX6_gathers0 20 = .ok (.if_icmp .ne 22, 3) := by decide +kernel
theorem dX6_gathers0_23 : decode cX6_gathers0 23 = .ok (.aload_n 0, 1) := by decide +kernel
theorem dX6_gathers0_24 : decode cX6_gathers0 24 = .ok (.aload_n 0, 1) := by decide +kernel
theorem dX6_gathers0_25 : decode cX6_gathers0 25 = .ok (.getfield 71, 3) := by decide +kernel
theorem dX6_gathers0_28 : decode cX6_gathers0 28 = .ok (.iload 4, 2) := by decide +kernel
theorem dX6_gathers0_30 : decode cX6_gathers0 30 = .ok (.iaload, 1) := by decide +kernel
theorem dX6_gathers0_31 : decode cX6_gathers0 31 = .ok (.iload_n 2, 1) := by decide +kernel
theorem dX6_gathers0_32 : decode cX6_gathers0 32 = .ok (.invokevirtual 226, 3) := by decide +kernel
theorem dX6_gathers0_35 : decode cX6_gathers0 35 = .ok (.ifCond .ne 7, 3) := by decide +kernel
theorem dX6_gathers0_38 : decode cX6_gathers0 38 = .ok (.iconst 1, 1) := by decide +kernel
theorem dX6_gathers0_39 : decode cX6_gathers0 39 = .ok (.goto 4, 3) := by decide +kernel
theorem dX6_gathers0_42 : decode cX6_gathers0 42 = .ok (.iconst 0, 1) := by decide +kernel
theorem dX6_gathers0_43 : decode cX6_gathers0 43 = .ok (.istore_n 3, 1) := by decide +kernel
theorem dX6_gathers0_44 : decode cX6_gathers0 44 = .ok (.iinc 4 1, 3) := by decide +kernel
theorem dX6_gathers0_47 : decode cX6_gathers0 47 = .ok (.goto (-42), 3) := by decide +kernel
theorem dX6_gathers0_50 : decode cX6_gathers0 50 = .ok (.iload_n 3, 1) := by decide +kernel
theorem dX6_gathers0_51 : decode cX6_gathers0 51 = .ok (.ifCond .ne 23, 3) := by decide +kernel
theorem dX6_gathers0_54 : decode cX6_gathers0 54 = .ok (.aload_n 0, 1) := by decide +kernel
theorem dX6_gathers0_55 : decode cX6_gathers0 55 = .ok (.getfield 71, 3) := by decide +kernel
theorem dX6_gathers0_58 : decode cX6_gathers0 58 = .ok (.aload_n 0, 1) := by decide +kernel
theorem dX6_gathers0_59 : decode cX6_gathers0 59 = .ok (.getfield 232, 3) := by decide +kernel
theorem dX6_gathers0_62 : decode cX6_gathers0 62 = .ok (.iload_n 2, 1) := by decide +kernel
theorem dX6_gathers0_63 : decode cX6_gathers0 63 = .ok (.iastore, 1) := by decide +kernel
theorem dX6_gathers0_64 : decode cX6_gathers0 64 = .ok (.aload_n 0, 1) := by decide +kernel
theorem dX6_gathers0_65 : decode cX6_gathers0 65 = .ok (.dup, 1) := by decide +kernel
theorem dX6_gathers0_66 : decode cX6_gathers0 66 = .ok (.getfield 232, 3) := by decide +kernel
theorem dX6_gathers0_69 : decode cX6_gathers0 69 = .ok (.iconst 1, 1) := by decide +kernel
theorem dX6_gathers0_70 : decode cX6_gathers0 70 = .ok (.iadd, 1) := by decide +kernel
theorem dX6_gathers0_71 : decode cX6_gathers0 71 = .ok (.putfield 232, 3) := by decide +kernel
theorem dX6_gathers0_74 : decode cX6_gathers0 74 = .ok (.return_, 1) := by decide +kernel
theorem dX6_sort_0 : decode cX6_sort 0 = .ok (.iload_n 1, 1) := by decide +kernel
theorem dX6_sort_1 : decode cX6_sort 1 = .ok (.iconst 1, 1) := by decide +kernel
theorem dX6_sort_2 : decode cX6_sort 2 = .ok (.iadd, 1) := by decide +kernel
theorem dX6_sort_3 : decode cX6_sort 3 = .ok (.istore_n 2, 1) := by decide +kernel
theorem dX6_sort_4 : decode cX6_sort 4 = .ok (.iload_n 2, 1) := by decide +kernel
theorem dX6_sort_5 : decode cX6_sort 5 = .ok (.aload_n 0, 1) := by decide +kernel
theorem dX6_sort_6 : decode cX6_sort 6 = .ok (.getfield 232, 3) := by decide +kernel
theorem dX6_sort_9 : decode cX6_sort 9 = .ok (.if_icmp .ge 72, 3) := by decide +kernel
theorem dX6_sort_12 : decode cX6_sort 12 = .ok (.aload_n 0, 1) := by decide +kernel
theorem dX6_sort_13 : decode cX6_sort 13 = .ok (.getfield 71, 3) := by decide +kernel
theorem dX6_sort_16 : decode cX6_sort 16 = .ok (.iload_n 2, 1) := by decide +kernel
theorem dX6_sort_17 : decode cX6_sort 17 = .ok (.iaload, 1) := by decide +kernel
theorem dX6_sort_18 : decode cX6_sort 18 = .ok (.istore_n 3, 1) := by decide +kernel
theorem dX6_sort_19 : decode cX6_sort 19 = .ok (.iload_n 2, 1) := by decide +kernel
theorem dX6_sort_20 : decode cX6_sort 20 = .ok (.istore 4, 2) := by decide +kernel
theorem dX6_sort_22 : decode cX6_sort 22 = .ok (.iload 4, 2) := by decide +kernel
theorem dX6_sort_24 : decode cX6_sort 24 = .ok (.iload_n 1, 1) := by decide +kernel
theorem dX6_sort_25 : decode cX6_sort 25 = .ok (.if_icmp .le 42, 3) := by decide +kernel
theorem dX6_sort_28 : decode cX6_sort 28 = .ok (.aload_n 0, 1) := by decide +kernel
theorem dX6_sort_29 : decode cX6_sort 29 = .ok (.aload_n 0, 1) := by decide +kernel
theorem dX6_sort_30 : decode cX6_sort 30 = .ok (.getfield 71, 3) := by decide +kernel
theorem dX6_sort_33 : decode cX6_sort 33 = .ok (.iload 4, 2) := by decide +kernel
theorem dX6_sort_35 : decode cX6_sort 35 = .ok (.iconst 1, 1) := by decide +kernel
theorem dX6_sort_36 : decode cX6_sort 36 = .ok (.isub, 1) := by decide +kernel
theorem dX6_sort_37 : decode cX6_sort 37 = .ok (.iaload, 1) := by decide +kernel
theorem dX6_sort_38 : decode cX6_sort 38 = .ok (.iload_n 3, 1) := by decide +kernel
theorem dX6_sort_39 : decode cX6_sort 39 = .ok (.invokevirtual 226, 3) := by decide +kernel
theorem dX6_sort_42 : decode cX6_sort 42 = .ok (.ifCond .le 25, 3) := by decide +kernel
theorem dX6_sort_45 : decode cX6_sort 45 = .ok (.aload_n 0, 1) := by decide +kernel
theorem dX6_sort_46 : decode cX6_sort 46 = .ok (.getfield 71, 3) := by decide +kernel
theorem dX6_sort_49 : decode cX6_sort 49 = .ok (.iload 4, 2) := by decide +kernel
theorem dX6_sort_51 : decode cX6_sort 51 = .ok (.aload_n 0, 1) := by decide +kernel
theorem dX6_sort_52 : decode cX6_sort 52 = .ok (.getfield 71, 3) := by decide +kernel
theorem dX6_sort_55 : decode cX6_sort 55 = .ok (.iload 4, 2) := by decide +kernel
theorem dX6_sort_57 : decode cX6_sort 57 = .ok (.iconst 1, 1) := by decide +kernel
theorem dX6_sort_58 : decode cX6_sort 58 = .ok (.isub, 1) := by decide +kernel
theorem dX6_sort_59 : decode cX6_sort 59 = .ok (.iaload, 1) := by decide +kernel
theorem dX6_sort_60 : decode cX6_sort 60 = .ok (.iastore, 1) := by decide +kernel
theorem dX6_sort_61 : decode cX6_sort 61 = .ok (.iinc 4 (-1), 3) := by decide +kernel
theorem dX6_sort_64 : decode cX6_sort 64 = .ok (.goto (-42), 3) := by decide +kernel
theorem dX6_sort_67 : decode cX6_sort 67 = .ok (.aload_n 0, 1) := by decide +kernel
theorem dX6_sort_68 : decode cX6_sort 68 = .ok (.getfield 71, 3) := by decide +kernel
theorem dX6_sort_71 : decode cX6_sort 71 = .ok (.iload 4, 2) := by decide +kernel
theorem dX6_sort_73 : decode cX6_sort 73 = .ok (.iload_n 3, 1) := by decide +kernel
theorem dX6_sort_74 : decode cX6_sort 74 = .ok (.iastore, 1) := by decide +kernel
theorem dX6_sort_75 : decode cX6_sort 75 = .ok (.iinc 2 1, 3) := by decide +kernel
theorem dX6_sort_78 : decode cX6_sort 78 = .ok (.goto (-74), 3) := by decide +kernel
theorem dX6_sort_81 : decode cX6_sort 81 = .ok (.return_, 1) := by decide +kernel
theorem dX6_plainNode_0 : decode cX6_plainNode 0 = .ok (.aload_n 0, 1) := by decide +kernel
theorem dX6_plainNode_1 : decode cX6_plainNode 1 = .ok (.getfield 74, 3) := by decide +kernel
theorem dX6_plainNode_4 : decode cX6_plainNode 4 = .ok (.iload_n 1, 1) := by decide +kernel
theorem dX6_plainNode_5 : decode cX6_plainNode 5 = .ok (.iload_n 1, 1) := by decide +kernel
theorem dX6_plainNode_6 : decode cX6_plainNode 6 = .ok (.iastore, 1) := by decide +kernel
theorem dX6_plainNode_7 : decode cX6_plainNode 7 = .ok (.aload_n 0, 1) := by decide +kernel
theorem dX6_plainNode_8 : decode cX6_plainNode 8 = .ok (.getfield 56, 3) := by decide +kernel
theorem dX6_plainNode_11 : decode cX6_plainNode 11 = .ok (.iload_n 1, 1) := by decide +kernel
theorem dX6_plainNode_12 : decode cX6_plainNode 12 = .ok (.iaload, 1) := by decide +kernel
theorem dX6_plainNode_13 : decode cX6_plainNode 13 = .ok (.ifCond .ne 4, 3) := by decide +kernel
theorem dX6_plainNode_16 : decode cX6_plainNode 16 = .ok (.return_, 1) := by decide +kernel
theorem dX6_plainNode_17 : decode cX6_plainNode 17 = .ok (.aload_n 0, 1) := by decide +kernel
theorem dX6_plainNode_18 : decode cX6_plainNode 18 = .ok (.iconst 0, 1) := by decide +kernel
theorem dX6_plainNode_19 : decode cX6_plainNode 19 = .ok (.putfield 232, 3) := by decide +kernel
theorem dX6_plainNode_22 : decode cX6_plainNode 22 = .ok (.iconst 0, 1) := by decide +kernel
theorem dX6_plainNode_23 : decode cX6_plainNode 23 = .ok (.istore_n 2, 1) := by decide +kernel
theorem dX6_plainNode_24 : decode cX6_plainNode 24 = .ok (.iload_n 2, 1) := by decide +kernel
theorem dX6_plainNode_25 : decode cX6_plainNode 25 = .ok (.aload_n 0, 1) := by decide +kernel
theorem dX6_plainNode_26 : decode cX6_plainNode 26 = .ok (.getfield 56, 3) := by decide +kernel
theorem dX6_plainNode_29 : decode cX6_plainNode 29 = .ok (.iload_n 1, 1) := by decide +kernel
theorem dX6_plainNode_30 : decode cX6_plainNode 30 = .ok (.iaload, 1) := by decide +kernel
theorem dX6_plainNode_31 : decode cX6_plainNode 31 = .ok (.if_icmp .ge 37, 3) := by decide +kernel
theorem dX6_plainNode_34 : decode cX6_plainNode 34 = .ok (.aload_n 0, 1) := by decide +kernel
theorem dX6_plainNode_35 : decode cX6_plainNode 35 = .ok (.aload_n 0, 1) := by decide +kernel
theorem dX6_plainNode_36 : decode cX6_plainNode 36 = .ok (.getfield 47, 3) := by decide +kernel
theorem dX6_plainNode_39 : decode cX6_plainNode 39 = .ok (.iload_n 1, 1) := by decide +kernel
theorem dX6_plainNode_40 : decode cX6_plainNode 40 = .ok (.iaload, 1) := by decide +kernel
theorem dX6_plainNode_41 : decode cX6_plainNode 41 = .ok (.aload_n 0, 1) := by decide +kernel
theorem dX6_plainNode_42 : decode cX6_plainNode 42 = .ok (.getfield 74, 3) := by decide +kernel
theorem dX6_plainNode_45 : decode cX6_plainNode 45 = .ok (.aload_n 0, 1) := by decide +kernel
theorem dX6_plainNode_46 : decode cX6_plainNode 46 = .ok (.getfield 59, 3) := by decide +kernel
theorem dX6_plainNode_49 : decode cX6_plainNode 49 = .ok (.aload_n 0, 1) := by decide +kernel
theorem dX6_plainNode_50 : decode cX6_plainNode 50 = .ok (.getfield 53, 3) := by decide +kernel
theorem dX6_plainNode_53 : decode cX6_plainNode 53 = .ok (.iload_n 1, 1) := by decide +kernel
theorem dX6_plainNode_54 : decode cX6_plainNode 54 = .ok (.iaload, 1) := by decide +kernel
theorem dX6_plainNode_55 : decode cX6_plainNode 55 = .ok (.iload_n 2, 1) := by decide +kernel
theorem dX6_plainNode_56 : decode cX6_plainNode 56 = .ok (.iadd, 1) := by decide +kernel
theorem dX6_plainNode_57 : decode cX6_plainNode 57 = .ok (.iaload, 1) := by decide +kernel
theorem dX6_plainNode_58 : decode cX6_plainNode 58 = .ok (.iaload, 1) := by decide +kernel
theorem dX6_plainNode_59 : decode cX6_plainNode 59 = .ok (.invokevirtual 235, 3) := by decide +kernel
theorem dX6_plainNode_62 : decode cX6_plainNode 62 = .ok (.iinc 2 1, 3) := by decide +kernel
theorem dX6_plainNode_65 : decode cX6_plainNode 65 = .ok (.goto (-41), 3) := by decide +kernel
theorem dX6_plainNode_68 : decode cX6_plainNode 68 = .ok (.aload_n 0, 1) := by decide +kernel
theorem dX6_plainNode_69 : decode cX6_plainNode 69 = .ok (.getfield 47, 3) := by decide +kernel
theorem dX6_plainNode_72 : decode cX6_plainNode 72 = .ok (.iload_n 1, 1) := by decide +kernel
theorem dX6_plainNode_73 : decode cX6_plainNode 73 = .ok (.iaload, 1) := by decide +kernel
theorem dX6_plainNode_74 : decode cX6_plainNode 74 = .ok (.iconst 2, 1) := by decide +kernel
theorem dX6_plainNode_75 : decode cX6_plainNode 75 = .ok (.if_icmp .eq 22, 3) := by decide +kernel
theorem dX6_plainNode_78 : decode cX6_plainNode 78 = .ok (.aload_n 0, 1) := by decide +kernel
theorem dX6_plainNode_79 : decode cX6_plainNode 79 = .ok (.aload_n 0, 1) := by decide +kernel
theorem dX6_plainNode_80 : decode cX6_plainNode 80 = .ok (.getfield 47, 3) := by decide +kernel
theorem dX6_plainNode_83 : decode cX6_plainNode 83 = .ok (.iload_n 1, 1) := by decide +kernel
theorem dX6_plainNode_84 : decode cX6_plainNode 84 = .ok (.iaload, 1) := by decide +kernel
theorem dX6_plainNode_85 : decode cX6_plainNode 85 = .ok (.iconst 5, 1) := by decide +kernel
theorem dX6_plainNode_86 : decode cX6_plainNode 86 = .ok (.if_icmp .ne 7, 3) := by decide +kernel
theorem dX6_plainNode_89 : decode cX6_plainNode 89 = .ok (.iconst 1, 1) := by decide +kernel
theorem dX6_plainNode_90 : decode cX6_plainNode 90 = .ok (.goto 4, 3) := by decide +kernel
theorem dX6_plainNode_93 : decode cX6_plainNode 93 = .ok (.iconst 0, 1) := by decide +kernel
theorem dX6_plainNode_94 : decode cX6_plainNode 94 = .ok (.invokevirtual 238, 3) := by decide +kernel
theorem dX6_plainNode_97 : decode cX6_plainNode 97 = .ok (.aload_n 0, 1) := by decide +kernel
theorem dX6_plainNode_98 : decode cX6_plainNode 98 = .ok (.getfield 232, 3) := by decide +kernel
theorem dX6_plainNode_101 : decode cX6_plainNode 101 = .ok (.iconst 1, 1) := by decide +kernel
theorem dX6_plainNode_102 : decode cX6_plainNode 102 = .ok (.if_icmp .ne 16, 3) := by decide +kernel
theorem dX6_plainNode_105 : decode cX6_plainNode 105 = .ok (.aload_n 0, 1) := by decide +kernel
theorem dX6_plainNode_106 : decode cX6_plainNode 106 = .ok (.getfield 74, 3) := by decide +kernel
theorem dX6_plainNode_109 : decode cX6_plainNode 109 = .ok (.iload_n 1, 1) := by decide +kernel
theorem dX6_plainNode_110 : decode cX6_plainNode 110 = .ok (.aload_n 0, 1) := by decide +kernel
theorem dX6_plainNode_111 : decode cX6_plainNode 111 = .ok (.getfield 71, 3) := by decide +kernel
theorem dX6_plainNode_114 : decode cX6_plainNode 114 = .ok (.iconst 0, 1) := by decide +kernel
theorem dX6_plainNode_115 : decode cX6_plainNode 115 = .ok (.iaload, 1) := by decide +kernel
theorem dX6_plainNode_116 : decode cX6_plainNode 116 = .ok (.iastore, 1) := by decide +kernel
theorem dX6_plainNode_117 : decode cX6_plainNode 117 = .ok (.return_, 1) := by decide +kernel
theorem dX6_plainNode_118 : decode cX6_plainNode 118 = .ok (.aload_n 0, 1) := by decide +kernel
theorem dX6_plainNode_119 : decode cX6_plainNode 119 = .ok (.getfield 53, 3) := by decide +kernel
theorem dX6_plainNode_122 : decode cX6_plainNode 122 = .ok (.iload_n 1, 1) := by decide +kernel
theorem dX6_plainNode_123 : decode cX6_plainNode 123 = .ok (.aload_n 0, 1) := by decide +kernel
theorem dX6_plainNode_124 : decode cX6_plainNode 124 = .ok (.getfield 213, 3) := by decide +kernel
theorem dX6_plainNode_127 : decode cX6_plainNode 127 = .ok (.iastore, 1) := by decide +kernel
theorem dX6_plainNode_128 : decode cX6_plainNode 128 = .ok (.aload_n 0, 1) := by decide +kernel
theorem dX6_plainNode_129 : decode cX6_plainNode 129 = .ok (.getfield 56, 3) := by decide +kernel
theorem dX6_plainNode_132 : decode cX6_plainNode 132 = .ok (.iload_n 1, 1) := by decide +kernel
theorem dX6_plainNode_133 : decode cX6_plainNode 133 = .ok (.aload_n 0, 1) := by decide +kernel
theorem dX6_plainNode_134 : decode cX6_plainNode 134 = .ok (.getfield 232, 3) := by decide +kernel
theorem dX6_plainNode_137 : decode cX6_plainNode 137 = .ok (.iastore, 1) := by decide +kernel
theorem dX6_plainNode_138 : decode cX6_plainNode 138 = .ok (.iconst 0, 1) := by decide +kernel
theorem dX6_plainNode_139 : decode cX6_plainNode 139 = .ok (.istore_n 2, 1) := by decide +kernel
theorem dX6_plainNode_140 : decode cX6_plainNode 140 = .ok (.iload_n 2, 1) := by decide +kernel
theorem dX6_plainNode_141 : decode cX6_plainNode 141 = .ok (.aload_n 0, 1) := by decide +kernel
theorem dX6_plainNode_142 : decode cX6_plainNode 142 = .ok (.getfield 232, 3) := by decide +kernel
theorem dX6_plainNode_145 : decode cX6_plainNode 145 = .ok (.if_icmp .ge 34, 3) := by decide +kernel
theorem dX6_plainNode_148 : decode cX6_plainNode 148 = .ok (.aload_n 0, 1) := by decide +kernel
theorem dX6_plainNode_149 : decode cX6_plainNode 149 = .ok (.getfield 59, 3) := by decide +kernel
theorem dX6_plainNode_152 : decode cX6_plainNode 152 = .ok (.aload_n 0, 1) := by decide +kernel
theorem dX6_plainNode_153 : decode cX6_plainNode 153 = .ok (.getfield 213, 3) := by decide +kernel
theorem dX6_plainNode_156 : decode cX6_plainNode 156 = .ok (.aload_n 0, 1) := by decide +kernel
theorem dX6_plainNode_157 : decode cX6_plainNode 157 = .ok (.getfield 71, 3) := by decide +kernel
theorem dX6_plainNode_160 : decode cX6_plainNode 160 = .ok (.iload_n 2, 1) := by decide +kernel
theorem dX6_plainNode_161 : decode cX6_plainNode 161 = .ok (.iaload, 1) := by decide +kernel
theorem dX6_plainNode_162 : decode cX6_plainNode 162 = .ok (.iastore, 1) := by decide +kernel
theorem dX6_plainNode_163 : decode cX6_plainNode 163 = .ok (.aload_n 0, 1) := by decide +kernel
theorem dX6_plainNode_164 : decode cX6_plainNode 164 = .ok (.dup, 1) := by decide +kernel
theorem dX6_plainNode_165 : decode cX6_plainNode 165 = .ok (.getfield 213, 3) := by decide +kernel
theorem dX6_plainNode_168 : decode cX6_plainNode 168 = .ok (.iconst 1, 1) := by decide +kernel
theorem dX6_plainNode_169 : decode cX6_plainNode 169 = .ok (.iadd, 1) := by decide +kernel
theorem dX6_plainNode_170 : decode cX6_plainNode 170 = .ok (.putfield 213, 3) := by decide +kernel
theorem dX6_plainNode_173 : decode cX6_plainNode 173 = .ok (.iinc 2 1, 3) := by decide +kernel
theorem dX6_plainNode_176 : decode cX6_plainNode 176 = .ok (.goto (-36), 3) := by decide +kernel
theorem dX6_plainNode_179 : decode cX6_plainNode 179 = .ok (.aload_n 0, 1) := by decide +kernel
theorem dX6_plainNode_180 : decode cX6_plainNode 180 = .ok (.getfield 232, 3) := by decide +kernel
theorem dX6_plainNode_183 : decode cX6_plainNode 183 = .ok (.ifCond .ne 10, 3) := by decide +kernel
theorem dX6_plainNode_186 : decode cX6_plainNode 186 = .ok (.aload_n 0, 1) := by decide +kernel
theorem dX6_plainNode_187 : decode cX6_plainNode 187 = .ok (.getfield 47, 3) := by decide +kernel
theorem dX6_plainNode_190 : decode cX6_plainNode 190 = .ok (.iload_n 1, 1) := by decide +kernel
theorem dX6_plainNode_191 : decode cX6_plainNode 191 = .ok (.iconst 1, 1) := by decide +kernel
theorem dX6_plainNode_192 : decode cX6_plainNode 192 = .ok (.iastore, 1) := by decide +kernel
theorem dX6_plainNode_193 : decode cX6_plainNode 193 = .ok (.return_, 1) := by decide +kernel
theorem dX6_layRow_0 : decode cX6_layRow 0 = .ok (.iconst 1, 1) := by decide +kernel
theorem dX6_layRow_1 : decode cX6_layRow 1 = .ok (.istore_n 2, 1) := by decide +kernel
theorem dX6_layRow_2 : decode cX6_layRow 2 = .ok (.aload_n 0, 1) := by decide +kernel
theorem dX6_layRow_3 : decode cX6_layRow 3 = .ok (.iconst 0, 1) := by decide +kernel
theorem dX6_layRow_4 : decode cX6_layRow 4 = .ok (.putfield 242, 3) := by decide +kernel
theorem dX6_layRow_7 : decode cX6_layRow 7 = .ok (.aload_n 0, 1) := by decide +kernel
theorem dX6_layRow_8 : decode cX6_layRow 8 = .ok (.getfield 65, 3) := by decide +kernel
theorem dX6_layRow_11 : decode cX6_layRow 11 = .ok (.iconst 0, 1) := by decide +kernel
theorem dX6_layRow_12 : decode cX6_layRow 12 = .ok (.iload_n 1, 1) := by decide +kernel
theorem dX6_layRow_13 : decode cX6_layRow 13 = .ok (.iastore, 1) := by decide +kernel
theorem dX6_layRow_14 : decode cX6_layRow 14 = .ok (.iload_n 2, 1) := by decide +kernel
theorem dX6_layRow_15 : decode cX6_layRow 15 = .ok (.ifCond .le 79, 3) := by decide +kernel
theorem dX6_layRow_18 : decode cX6_layRow 18 = .ok (.iinc 2 (-1), 3) := by decide +kernel
theorem dX6_layRow_21 : decode cX6_layRow 21 = .ok (.aload_n 0, 1) := by decide +kernel
theorem dX6_layRow_22 : decode cX6_layRow 22 = .ok (.getfield 65, 3) := by decide +kernel
theorem dX6_layRow_25 : decode cX6_layRow 25 = .ok (.iload_n 2, 1) := by decide +kernel
theorem dX6_layRow_26 : decode cX6_layRow 26 = .ok (.iaload, 1) := by decide +kernel
theorem dX6_layRow_27 : decode cX6_layRow 27 = .ok (.istore_n 3, 1) := by decide +kernel
theorem dX6_layRow_28 : decode cX6_layRow 28 = .ok (.aload_n 0, 1) := by decide +kernel
theorem dX6_layRow_29 : decode cX6_layRow 29 = .ok (.getfield 77, 3) := by decide +kernel
theorem dX6_layRow_32 : decode cX6_layRow 32 = .ok (.aload_n 0, 1) := by decide +kernel
theorem dX6_layRow_33 : decode cX6_layRow 33 = .ok (.getfield 242, 3) := by decide +kernel
theorem dX6_layRow_36 : decode cX6_layRow 36 = .ok (.iload_n 3, 1) := by decide +kernel
theorem dX6_layRow_37 : decode cX6_layRow 37 = .ok (.iastore, 1) := by decide +kernel
theorem dX6_layRow_38 : decode cX6_layRow 38 = .ok (.aload_n 0, 1) := by decide +kernel
theorem dX6_layRow_39 : decode cX6_layRow 39 = .ok (.dup, 1) := by decide +kernel
theorem dX6_layRow_40 : decode cX6_layRow 40 = .ok (.getfield 242, 3) := by decide +kernel
theorem dX6_layRow_43 : decode cX6_layRow 43 = .ok (.iconst 1, 1) := by decide +kernel
theorem dX6_layRow_44 : decode cX6_layRow 44 = .ok (.iadd, 1) := by decide +kernel
theorem dX6_layRow_45 : decode cX6_layRow 45 = .ok (.putfield 242, 3) := by decide +kernel
theorem dX6_layRow_48 : decode cX6_layRow 48 = .ok (.iconst 0, 1) := by decide +kernel
theorem dX6_layRow_49 : decode cX6_layRow 49 = .ok (.istore 4, 2) := by decide +kernel
theorem dX6_layRow_51 : decode cX6_layRow 51 = .ok (.iload 4, 2) := by decide +kernel
theorem dX6_layRow_53 : decode cX6_layRow 53 = .ok (.aload_n 0, 1) := by decide +kernel
theorem dX6_layRow_54 : decode cX6_layRow 54 = .ok (.getfield 56, 3) := by decide +kernel
theorem dX6_layRow_57 : decode cX6_layRow 57 = .ok (.iload_n 3, 1) := by decide +kernel
theorem dX6_layRow_58 : decode cX6_layRow 58 = .ok (.iaload, 1) := by decide +kernel
theorem dX6_layRow_59 : decode cX6_layRow 59 = .ok (.if_icmp .ge 32, 3) := by decide +kernel
theorem dX6_layRow_62 : decode cX6_layRow 62 = .ok (.aload_n 0, 1) := by decide +kernel
theorem dX6_layRow_63 : decode cX6_layRow 63 = .ok (.getfield 65, 3) := by decide +kernel
theorem dX6_layRow_66 : decode cX6_layRow 66 = .ok (.iload_n 2, 1) := by decide +kernel
theorem dX6_layRow_67 : decode cX6_layRow 67 = .ok (.aload_n 0, 1) := by decide +kernel
theorem dX6_layRow_68 : decode cX6_layRow 68 = .ok (.getfield 59, 3) := by decide +kernel
theorem dX6_layRow_71 : decode cX6_layRow 71 = .ok (.aload_n 0, 1) := by decide +kernel
theorem dX6_layRow_72 : decode cX6_layRow 72 = .ok (.getfield 53, 3) := by decide +kernel
theorem dX6_layRow_75 : decode cX6_layRow 75 = .ok (.iload_n 3, 1) := by decide +kernel
theorem dX6_layRow_76 : decode cX6_layRow 76 = .ok (.iaload, 1) := by decide +kernel
theorem dX6_layRow_77 : decode cX6_layRow 77 = .ok (.iload 4, 2) := by decide +kernel
theorem dX6_layRow_79 : decode cX6_layRow 79 = .ok (.iadd, 1) := by decide +kernel
theorem dX6_layRow_80 : decode cX6_layRow 80 = .ok (.iaload, 1) := by decide +kernel
theorem dX6_layRow_81 : decode cX6_layRow 81 = .ok (.iastore, 1) := by decide +kernel
theorem dX6_layRow_82 : decode cX6_layRow 82 = .ok (.iinc 2 1, 3) := by decide +kernel
theorem dX6_layRow_85 : decode cX6_layRow 85 = .ok (.iinc 4 1, 3) := by decide +kernel
theorem dX6_layRow_88 : decode cX6_layRow 88 = .ok (.goto (-37), 3) := by decide +kernel
theorem dX6_layRow_91 : decode cX6_layRow 91 = .ok (.goto (-77), 3) := by decide +kernel
theorem dX6_layRow_94 : decode cX6_layRow 94 = .ok (.return_, 1) := by decide +kernel
theorem dX6_make_0 : decode cX6_make 0 = .ok (.aload_n 0, 1) := by decide +kernel
theorem dX6_make_1 : decode cX6_make 1 = .ok (.iload_n 1, 1) := by decide +kernel
theorem dX6_make_2 : decode cX6_make 2 = .ok (.invokevirtual 245, 3) := by decide +kernel
theorem dX6_make_5 : decode cX6_make 5 = .ok (.aload_n 0, 1) := by decide +kernel
theorem dX6_make_6 : decode cX6_make 6 = .ok (.getfield 242, 3) := by decide +kernel
theorem dX6_make_9 : decode cX6_make 9 = .ok (.bipush 60, 2) := by decide +kernel
theorem dX6_make_11 : decode cX6_make 11 = .ok (.if_icmp .gt 18, 3) := by decide +kernel
theorem dX6_make_14 : decode cX6_make 14 = .ok (.aload_n 0, 1) := by decide +kernel
theorem dX6_make_15 : decode cX6_make 15 = .ok (.getfield 189, 3) := by decide +kernel
theorem dX6_make_18 : decode cX6_make 18 = .ok (.aload_n 0, 1) := by decide +kernel
theorem dX6_make_19 : decode cX6_make 19 = .ok (.getfield 242, 3) := by decide +kernel
theorem dX6_make_22 : decode cX6_make 22 = .ok (.iadd, 1) := by decide +kernel
theorem dX6_make_23 : decode cX6_make 23 = .ok (.sipush 200, 3) := by decide +kernel
theorem dX6_make_26 : decode cX6_make 26 = .ok (.if_icmp .le 6, 3) := by decide +kernel
theorem dX6_make_29 : decode cX6_make 29 = .ok (.bipush (-2), 2) := by decide +kernel
theorem dX6_make_31 : decode cX6_make 31 = .ok (.ireturn, 1) := by decide +kernel
theorem dX6_make_32 : decode cX6_make 32 = .ok (.aload_n 0, 1) := by decide +kernel
theorem dX6_make_33 : decode cX6_make 33 = .ok (.getfield 242, 3) := by decide +kernel
theorem dX6_make_36 : decode cX6_make 36 = .ok (.iconst 1, 1) := by decide +kernel
theorem dX6_make_37 : decode cX6_make 37 = .ok (.isub, 1) := by decide +kernel
theorem dX6_make_38 : decode cX6_make 38 = .ok (.istore_n 2, 1) := by decide +kernel
theorem dX6_make_39 : decode cX6_make 39 = .ok (.iload_n 2, 1) := by decide +kernel
theorem dX6_make_40 : decode cX6_make 40 = .ok (.ifCond .lt 101, 3) := by decide +kernel
theorem dX6_make_43 : decode cX6_make 43 = .ok (.aload_n 0, 1) := by decide +kernel
theorem dX6_make_44 : decode cX6_make 44 = .ok (.getfield 77, 3) := by decide +kernel
theorem dX6_make_47 : decode cX6_make 47 = .ok (.iload_n 2, 1) := by decide +kernel
theorem dX6_make_48 : decode cX6_make 48 = .ok (.iaload, 1) := by decide +kernel
theorem dX6_make_49 : decode cX6_make 49 = .ok (.istore_n 3, 1) := by decide +kernel
theorem dX6_make_50 : decode cX6_make 50 = .ok (.aload_n 0, 1) := by decide +kernel
theorem dX6_make_51 : decode cX6_make 51 = .ok (.aload_n 0, 1) := by decide +kernel
theorem dX6_make_52 : decode cX6_make 52 = .ok (.getfield 47, 3) := by decide +kernel
theorem dX6_make_55 : decode cX6_make 55 = .ok (.iload_n 3, 1) := by decide +kernel
theorem dX6_make_56 : decode cX6_make 56 = .ok (.iaload, 1) := by decide +kernel
theorem dX6_make_57 : decode cX6_make 57 = .ok (.aload_n 0, 1) := by decide +kernel
theorem dX6_make_58 : decode cX6_make 58 = .ok (.getfield 47, 3) := by decide +kernel
theorem dX6_make_61 : decode cX6_make 61 = .ok (.iload_n 3, 1) := by decide +kernel
theorem dX6_make_62 : decode cX6_make 62 = .ok (.iaload, 1) := by decide +kernel
theorem dX6_make_63 : decode cX6_make 63 = .ok (.ifCond .ne 12, 3) := by decide +kernel
theorem dX6_make_66 : decode cX6_make 66 = .ok (.aload_n 0, 1) := by decide +kernel
theorem dX6_make_67 : decode cX6_make 67 = .ok (.getfield 50, 3) := by decide +kernel
theorem dX6_make_70 : decode cX6_make 70 = .ok (.iload_n 3, 1) := by decide +kernel
theorem dX6_make_71 : decode cX6_make 71 = .ok (.iaload, 1) := by decide +kernel
theorem dX6_make_72 : decode cX6_make 72 = .ok (.goto 5, 3) := by decide +kernel
theorem dX6_make_75 : decode cX6_make 75 = .ok (.bipush (-3), 2) := by decide +kernel
theorem dX6_make_77 : decode cX6_make 77 = .ok (.invokevirtual 195, 3) := by decide +kernel
theorem dX6_make_80 : decode cX6_make 80 = .ok (.istore 4, 2) := by decide +kernel
theorem dX6_make_82 : decode cX6_make 82 = .ok (.iconst 0, 1) := by decide +kernel
theorem dX6_make_83 : decode cX6_make 83 = .ok (.istore 5, 2) := by decide +kernel
theorem dX6_make_85 : decode cX6_make 85 = .ok (.iload 5, 2) := by decide +kernel
theorem dX6_make_87 : decode cX6_make 87 = .ok (.aload_n 0, 1) := by decide +kernel
theorem dX6_make_88 : decode cX6_make 88 = .ok (.getfield 56, 3) := by decide +kernel
theorem dX6_make_91 : decode cX6_make 91 = .ok (.iload_n 3, 1) := by decide +kernel
theorem dX6_make_92 : decode cX6_make 92 = .ok (.iaload, 1) := by decide +kernel
theorem dX6_make_93 : decode cX6_make 93 = .ok (.if_icmp .ge 34, 3) := by decide +kernel
theorem dX6_make_96 : decode cX6_make 96 = .ok (.aload_n 0, 1) := by decide +kernel
theorem dX6_make_97 : decode cX6_make 97 = .ok (.iload 4, 2) := by decide +kernel
theorem dX6_make_99 : decode cX6_make 99 = .ok (.aload_n 0, 1) := by decide +kernel
theorem dX6_make_100 : decode cX6_make 100 = .ok (.getfield 80, 3) := by decide +kernel
theorem dX6_make_103 : decode cX6_make 103 = .ok (.aload_n 0, 1) := by decide +kernel
theorem dX6_make_104 : decode cX6_make 104 = .ok (.getfield 59, 3) := by decide +kernel
theorem dX6_make_107 : decode cX6_make 107 = .ok (.aload_n 0, 1) := by decide +kernel
theorem dX6_make_108 : decode cX6_make 108 = .ok (.getfield 53, 3) := by decide +kernel
theorem dX6_make_111 : decode cX6_make 111 = .ok (.iload_n 3, 1) := by decide +kernel
theorem dX6_make_112 : decode cX6_make 112 = .ok (.iaload, 1) := by decide +kernel
theorem dX6_make_113 : decode cX6_make 113 = .ok (.iload 5, 2) := by decide +kernel
theorem dX6_make_115 : decode cX6_make 115 = .ok (.iadd, 1) := by decide +kernel
theorem dX6_make_116 : decode cX6_make 116 = .ok (.iaload, 1) := by decide +kernel
theorem dX6_make_117 : decode cX6_make 117 = .ok (.iaload, 1) := by decide +kernel
theorem dX6_make_118 : decode cX6_make 118 = .ok (.invokevirtual 204, 3) := by decide +kernel
theorem dX6_make_121 : decode cX6_make 121 = .ok (.iinc 5 1, 3) := by decide +kernel
theorem dX6_make_124 : decode cX6_make 124 = .ok (.goto (-39), 3) := by decide +kernel
theorem dX6_make_127 : decode cX6_make 127 = .ok (.aload_n 0, 1) := by decide +kernel
theorem dX6_make_128 : decode cX6_make 128 = .ok (.getfield 80, 3) := by decide +kernel
theorem dX6_make_131 : decode cX6_make 131 = .ok (.iload_n 3, 1) := by decide +kernel
theorem dX6_make_132 : decode cX6_make 132 = .ok (.iload 4, 2) := by decide +kernel
theorem dX6_make_134 : decode cX6_make 134 = .ok (.iastore, 1) := by decide +kernel
theorem dX6_make_135 : decode cX6_make 135 = .ok (.iinc 2 (-1), 3) := by decide +kernel
theorem dX6_make_138 : decode cX6_make 138 = .ok (.goto (-99), 3) := by decide +kernel
theorem dX6_make_141 : decode cX6_make 141 = .ok (.aload_n 0, 1) := by decide +kernel
theorem dX6_make_142 : decode cX6_make 142 = .ok (.getfield 189, 3) := by decide +kernel
theorem dX6_make_145 : decode cX6_make 145 = .ok (.iconst 1, 1) := by decide +kernel
theorem dX6_make_146 : decode cX6_make 146 = .ok (.isub, 1) := by decide +kernel
theorem dX6_make_147 : decode cX6_make 147 = .ok (.ireturn, 1) := by decide +kernel
theorem dX6_plain_0 : decode cX6_plain 0 = .ok (.aload_n 0, 1) := by decide +kernel
theorem dX6_plain_1 : decode cX6_plain 1 = .ok (.iload_n 1, 1) := by decide +kernel
theorem dX6_plain_2 : decode cX6_plain 2 = .ok (.invokevirtual 201, 3) := by decide +kernel
theorem dX6_plain_5 : decode cX6_plain 5 = .ok (.ifCond .ne 5, 3) := by decide +kernel
theorem dX6_plain_8 : decode cX6_plain 8 = .ok (.iconst (-1), 1) := by decide +kernel
theorem dX6_plain_9 : decode cX6_plain 9 = .ok (.ireturn, 1) := by decide +kernel
theorem dX6_plain_10 : decode cX6_plain 10 = .ok (.aload_n 0, 1) := by decide +kernel
theorem dX6_plain_11 : decode cX6_plain 11 = .ok (.invokevirtual 219, 3) := by decide +kernel
theorem dX6_plain_14 : decode cX6_plain 14 = .ok (.aload_n 0, 1) := by decide +kernel
theorem dX6_plain_15 : decode cX6_plain 15 = .ok (.iload_n 1, 1) := by decide +kernel
theorem dX6_plain_16 : decode cX6_plain 16 = .ok (.invokevirtual 222, 3) := by decide +kernel
theorem dX6_plain_19 : decode cX6_plain 19 = .ok (.istore_n 2, 1) := by decide +kernel
theorem dX6_plain_20 : decode cX6_plain 20 = .ok (.aload_n 0, 1) := by decide +kernel
theorem dX6_plain_21 : decode cX6_plain 21 = .ok (.getfield 210, 3) := by decide +kernel
theorem dX6_plain_24 : decode cX6_plain 24 = .ok (.iconst 1, 1) := by decide +kernel
theorem dX6_plain_25 : decode cX6_plain 25 = .ok (.isub, 1) := by decide +kernel
theorem dX6_plain_26 : decode cX6_plain 26 = .ok (.istore_n 3, 1) := by decide +kernel
theorem dX6_plain_27 : decode cX6_plain 27 = .ok (.iload_n 3, 1) := by decide +kernel
theorem dX6_plain_28 : decode cX6_plain 28 = .ok (.ifCond .lt 14, 3) := by decide +kernel
theorem dX6_plain_31 : decode cX6_plain 31 = .ok (.aload_n 0, 1) := by decide +kernel
theorem dX6_plain_32 : decode cX6_plain 32 = .ok (.iload_n 3, 1) := by decide +kernel
theorem dX6_plain_33 : decode cX6_plain 33 = .ok (.invokevirtual 248, 3) := by decide +kernel
theorem dX6_plain_36 : decode cX6_plain 36 = .ok (.iinc 3 (-1), 3) := by decide +kernel
theorem dX6_plain_39 : decode cX6_plain 39 = .ok (.goto (-12), 3) := by decide +kernel
theorem dX6_plain_42 : decode cX6_plain 42 = .ok (.aload_n 0, 1) := by decide +kernel
theorem dX6_plain_43 : decode cX6_plain 43 = .ok (.aload_n 0, 1) := by decide +kernel
theorem dX6_plain_44 : decode cX6_plain 44 = .ok (.getfield 74, 3) := by decide +kernel
theorem dX6_plain_47 : decode cX6_plain 47 = .ok (.iload_n 2, 1) := by decide +kernel
theorem dX6_plain_48 : decode cX6_plain 48 = .ok (.iaload, 1) := by decide +kernel
theorem dX6_plain_49 : decode cX6_plain 49 = .ok (.invokevirtual 251, 3) := by decide +kernel
theorem dX6_plain_52 : decode cX6_plain 52 = .ok (.ireturn, 1) := by decide +kernel
theorem dX6_copySet_0 : decode cX6_copySet 0 = .ok (.iconst 0, 1) := by decide +kernel
theorem dX6_copySet_1 : decode cX6_copySet 1 = .ok (.istore_n 3, 1) := by decide +kernel
theorem dX6_copySet_2 : decode cX6_copySet 2 = .ok (.iload_n 3, 1) := by decide +kernel
theorem dX6_copySet_3 : decode cX6_copySet 3 = .ok (.bipush 64, 2) := by decide +kernel
theorem dX6_copySet_5 : decode cX6_copySet 5 = .ok (.if_icmp .ge 23, 3) := by decide +kernel
theorem dX6_copySet_8 : decode cX6_copySet 8 = .ok (.aload_n 1, 1) := by decide +kernel
theorem dX6_copySet_9 : decode cX6_copySet 9 = .ok (.iload_n 3, 1) := by decide +kernel
theorem dX6_copySet_10 : decode cX6_copySet 10 = .ok (.aload_n 0, 1) := by decide +kernel
theorem dX6_copySet_11 : decode cX6_copySet 11 = .ok (.getfield 86, 3) := by decide +kernel
theorem dX6_copySet_14 : decode cX6_copySet 14 = .ok (.bipush 64, 2) := by decide +kernel
theorem dX6_copySet_16 : decode cX6_copySet 16 = .ok (.iload_n 2, 1) := by decide +kernel
theorem dX6_copySet_17 : decode cX6_copySet 17 = .ok (.imul, 1) := by decide +kernel
theorem dX6_copySet_18 : decode cX6_copySet 18 = .ok (.iload_n 3, 1) := by decide +kernel
theorem dX6_copySet_19 : decode cX6_copySet 19 = .ok (.iadd, 1) := by decide +kernel
theorem dX6_copySet_20 : decode cX6_copySet 20 = .ok (.iaload, 1) := by decide +kernel
theorem dX6_copySet_21 : decode cX6_copySet 21 = .ok (.iastore, 1) := by decide +kernel
theorem dX6_copySet_22 : decode cX6_copySet 22 = .ok (.iinc 3 1, 3) := by decide +kernel
theorem dX6_copySet_25 : decode cX6_copySet 25 = .ok (.goto (-23), 3) := by decide +kernel
theorem dX6_copySet_28 : decode cX6_copySet 28 = .ok (.return_, 1) := by decide +kernel
theorem dX6_behind_0 : decode cX6_behind 0 = .ok (.iconst 1, 1) := by decide +kernel
theorem dX6_behind_1 : decode cX6_behind 1 = .ok (.aload_n 0, 1) := by decide +kernel
theorem dX6_behind_2 : decode cX6_behind 2 = .ok (.getfield 254, 3) := by decide +kernel
theorem dX6_behind_5 : decode cX6_behind 5 = .ok (.ishl, 1) := by decide +kernel
theorem dX6_behind_6 : decode cX6_behind 6 = .ok (.istore_n 1, 1) := by decide +kernel
theorem dX6_behind_7 : decode cX6_behind 7 = .ok (.iconst 0, 1) := by decide +kernel
theorem dX6_behind_8 : decode cX6_behind 8 = .ok (.istore_n 2, 1) := by decide +kernel
theorem dX6_behind_9 : decode cX6_behind 9 = .ok (.iload_n 2, 1) := by decide +kernel
theorem dX6_behind_10 : decode cX6_behind 10 = .ok (.iload_n 1, 1) := by decide +kernel
theorem dX6_behind_11 : decode cX6_behind 11 = .ok (.if_icmp .ge 90, 3) := by decide +kernel
theorem dX6_behind_14 : decode cX6_behind 14 = .ok (.aload_n 0, 1) := by decide +kernel
theorem dX6_behind_15 : decode cX6_behind 15 = .ok (.getfield 95, 3) := by decide +kernel
theorem dX6_behind_18 : decode cX6_behind 18 = .ok (.iload_n 2, 1) := by decide +kernel
theorem dX6_behind_19 : decode cX6_behind 19 = .ok (.ldc_w 257, 3) := by decide +kernel
theorem dX6_behind_22 : decode cX6_behind 22 = .ok (.iastore, 1) := by decide +kernel
theorem dX6_behind_23 : decode cX6_behind 23 = .ok (.iconst 0, 1) := by decide +kernel
theorem dX6_behind_24 : decode cX6_behind 24 = .ok (.istore_n 3, 1) := by decide +kernel
theorem dX6_behind_25 : decode cX6_behind 25 = .ok (.iload_n 3, 1) := by decide +kernel
theorem dX6_behind_26 : decode cX6_behind 26 = .ok (.aload_n 0, 1) := by decide +kernel
theorem dX6_behind_27 : decode cX6_behind 27 = .ok (.getfield 254, 3) := by decide +kernel
theorem dX6_behind_30 : decode cX6_behind 30 = .ok (.if_icmp .gt 65, 3) := by decide +kernel
theorem dX6_behind_33 : decode cX6_behind 33 = .ok (.iload_n 2, 1) := by decide +kernel
theorem dX6_behind_34 : decode cX6_behind 34 = .ok (.iconst 1, 1) := by decide +kernel
theorem dX6_behind_35 : decode cX6_behind 35 = .ok (.iload_n 3, 1) := by decide +kernel
theorem dX6_behind_36 : decode cX6_behind 36 = .ok (.ishl, 1) := by decide +kernel
theorem dX6_behind_37 : decode cX6_behind 37 = .ok (.iconst 1, 1) := by decide +kernel
theorem dX6_behind_38 : decode cX6_behind 38 = .ok (.isub, 1) := by decide +kernel
theorem dX6_behind_39 : decode cX6_behind 39 = .ok (.iand, 1) := by decide +kernel
theorem dX6_behind_40 : decode cX6_behind 40 = .ok (.istore 4, 2) := by decide +kernel
theorem dX6_behind_42 : decode cX6_behind 42 = .ok (.aload_n 0, 1) := by decide +kernel
theorem dX6_behind_43 : decode cX6_behind 43 = .ok (.getfield 89, 3) := by decide +kernel
theorem dX6_behind_46 : decode cX6_behind 46 = .ok (.iload 4, 2) := by decide +kernel
theorem dX6_behind_48 : decode cX6_behind 48 = .ok (.iaload, 1) := by decide +kernel
theorem dX6_behind_49 : decode cX6_behind 49 = .ok (.aload_n 0, 1) := by decide +kernel
theorem dX6_behind_50 : decode cX6_behind 50 = .ok (.getfield 92, 3) := by decide +kernel
theorem dX6_behind_53 : decode cX6_behind 53 = .ok (.iload_n 2, 1) := by decide +kernel
theorem dX6_behind_54 : decode cX6_behind 54 = .ok (.iload 4, 2) := by decide +kernel
theorem dX6_behind_56 : decode cX6_behind 56 = .ok (.isub, 1) := by decide +kernel
theorem dX6_behind_57 : decode cX6_behind 57 = .ok (.iaload, 1) := by decide +kernel
theorem dX6_behind_58 : decode cX6_behind 58 = .ok (.iadd, 1) := by decide +kernel
theorem dX6_behind_59 : decode cX6_behind 59 = .ok (.istore 5, 2) := by decide +kernel
theorem dX6_behind_61 : decode cX6_behind 61 = .ok (.aload_n 0, 1) := by decide +kernel
theorem dX6_behind_62 : decode cX6_behind 62 = .ok (.getfield 95, 3) := by decide +kernel
theorem dX6_behind_65 : decode cX6_behind 65 = .ok (.iload_n 2, 1) := by decide +kernel
theorem dX6_behind_66 : decode cX6_behind 66 = .ok (.iload 5, 2) := by decide +kernel
theorem dX6_behind_68 : decode cX6_behind 68 = .ok (.aload_n 0, 1) := by decide +kernel
theorem dX6_behind_69 : decode cX6_behind 69 = .ok (.getfield 95, 3) := by decide +kernel
theorem dX6_behind_72 : decode cX6_behind 72 = .ok (.iload_n 2, 1) := by decide +kernel
theorem dX6_behind_73 : decode cX6_behind 73 = .ok (.iaload, 1) := by decide +kernel
theorem dX6_behind_74 : decode cX6_behind 74 = .ok (.if_icmp .ge 8, 3) := by decide +kernel
theorem dX6_behind_77 : decode cX6_behind 77 = .ok (.iload 5, 2) := by decide +kernel
theorem dX6_behind_79 : decode cX6_behind 79 = .ok (.goto 9, 3) := by decide +kernel
theorem dX6_behind_82 : decode cX6_behind 82 = .ok (.aload_n 0, 1) := by decide +kernel
theorem dX6_behind_83 : decode cX6_behind 83 = .ok (.getfield 95, 3) := by decide +kernel
theorem dX6_behind_86 : decode cX6_behind 86 = .ok (.iload_n 2, 1) := by decide +kernel
theorem dX6_behind_87 : decode cX6_behind 87 = .ok (.iaload, 1) := by decide +kernel
theorem dX6_behind_88 : decode cX6_behind 88 = .ok (.iastore, 1) := by decide +kernel
theorem dX6_behind_89 : decode cX6_behind 89 = .ok (.iinc 3 1, 3) := by decide +kernel
theorem dX6_behind_92 : decode cX6_behind 92 = .ok (.goto (-67), 3) := by decide +kernel
theorem dX6_behind_95 : decode cX6_behind 95 = .ok (.iinc 2 1, 3) := by decide +kernel
theorem dX6_behind_98 : decode cX6_behind 98 = .ok (.goto (-89), 3) := by decide +kernel
theorem dX6_behind_101 : decode cX6_behind 101 = .ok (.return_, 1) := by decide +kernel
theorem dX6_beside_0 : decode cX6_beside 0 = .ok (.iconst 1, 1) := by decide +kernel
theorem dX6_beside_1 : decode cX6_beside 1 = .ok (.aload_n 0, 1) := by decide +kernel
theorem dX6_beside_2 : decode cX6_beside 2 = .ok (.getfield 254, 3) := by decide +kernel
theorem dX6_beside_5 : decode cX6_beside 5 = .ok (.ishl, 1) := by decide +kernel
theorem dX6_beside_6 : decode cX6_beside 6 = .ok (.istore_n 1, 1) := by decide +kernel
theorem dX6_beside_7 : decode cX6_beside 7 = .ok (.iconst 0, 1) := by decide +kernel
theorem dX6_beside_8 : decode cX6_beside 8 = .ok (.istore_n 2, 1) := by decide +kernel
theorem dX6_beside_9 : decode cX6_beside 9 = .ok (.iload_n 2, 1) := by decide +kernel
theorem dX6_beside_10 : decode cX6_beside 10 = .ok (.iload_n 1, 1) := by decide +kernel
theorem dX6_beside_11 : decode cX6_beside 11 = .ok (.if_icmp .ge 89, 3) := by decide +kernel
theorem dX6_beside_14 : decode cX6_beside 14 = .ok (.aload_n 0, 1) := by decide +kernel
theorem dX6_beside_15 : decode cX6_beside 15 = .ok (.getfield 95, 3) := by decide +kernel
theorem dX6_beside_18 : decode cX6_beside 18 = .ok (.iload_n 2, 1) := by decide +kernel
theorem dX6_beside_19 : decode cX6_beside 19 = .ok (.ldc_w 257, 3) := by decide +kernel
theorem dX6_beside_22 : decode cX6_beside 22 = .ok (.iastore, 1) := by decide +kernel
theorem dX6_beside_23 : decode cX6_beside 23 = .ok (.iconst 0, 1) := by decide +kernel
theorem dX6_beside_24 : decode cX6_beside 24 = .ok (.istore_n 3, 1) := by decide +kernel
theorem dX6_beside_25 : decode cX6_beside 25 = .ok (.iload_n 3, 1) := by decide +kernel
theorem dX6_beside_26 : decode cX6_beside 26 = .ok (.iload_n 1, 1) := by decide +kernel
theorem dX6_beside_27 : decode cX6_beside 27 = .ok (.if_icmp .ge 67, 3) := by decide +kernel
theorem dX6_beside_30 : decode cX6_beside 30 = .ok (.iload_n 3, 1) := by decide +kernel
theorem dX6_beside_31 : decode cX6_beside 31 = .ok (.iload_n 2, 1) := by decide +kernel
theorem dX6_beside_32 : decode cX6_beside 32 = .ok (.iand, 1) := by decide +kernel
theorem dX6_beside_33 : decode cX6_beside 33 = .ok (.iload_n 3, 1) := by decide +kernel
theorem dX6_beside_34 : decode cX6_beside 34 = .ok (.if_icmp .ne 21, 3) := by decide +kernel
theorem dX6_beside_37 : decode cX6_beside 37 = .ok (.aload_n 0, 1) := by decide +kernel
theorem dX6_beside_38 : decode cX6_beside 38 = .ok (.getfield 89, 3) := by decide +kernel
theorem dX6_beside_41 : decode cX6_beside 41 = .ok (.iload_n 3, 1) := by decide +kernel
theorem dX6_beside_42 : decode cX6_beside 42 = .ok (.iaload, 1) := by decide +kernel
theorem dX6_beside_43 : decode cX6_beside 43 = .ok (.aload_n 0, 1) := by decide +kernel
theorem dX6_beside_44 : decode cX6_beside 44 = .ok (.getfield 92, 3) := by decide +kernel
theorem dX6_beside_47 : decode cX6_beside 47 = .ok (.iload_n 2, 1) := by decide +kernel
theorem dX6_beside_48 : decode cX6_beside 48 = .ok (.iload_n 3, 1) := by decide +kernel
theorem dX6_beside_49 : decode cX6_beside 49 = .ok (.isub, 1) := by decide +kernel
theorem dX6_beside_50 : decode cX6_beside 50 = .ok (.iaload, 1) := by decide +kernel
theorem dX6_beside_51 : decode cX6_beside 51 = .ok (.iadd, 1) := by decide +kernel
theorem dX6_beside_52 : decode cX6_beside 52 = .ok (.goto 6, 3) := by decide +kernel
theorem dX6_beside_55 : decode cX6_beside 55 = .ok (.ldc_w 257, 3) := by decide +kernel
theorem dX6_beside_58 : decode cX6_beside 58 = .ok (.istore 4, 2) := by decide +kernel
theorem dX6_beside_60 : decode cX6_beside 60 = .ok (.aload_n 0, 1) := by decide +kernel
theorem dX6_beside_61 : decode cX6_beside 61 = .ok (.getfield 95, 3) := by decide +kernel
theorem dX6_beside_64 : decode cX6_beside 64 = .ok (.iload_n 2, 1) := by decide +kernel
theorem dX6_beside_65 : decode cX6_beside 65 = .ok (.iload 4, 2) := by decide +kernel
theorem dX6_beside_67 : decode cX6_beside 67 = .ok (.aload_n 0, 1) := by decide +kernel
theorem dX6_beside_68 : decode cX6_beside 68 = .ok (.getfield 95, 3) := by decide +kernel
theorem dX6_beside_71 : decode cX6_beside 71 = .ok (.iload_n 2, 1) := by decide +kernel
theorem dX6_beside_72 : decode cX6_beside 72 = .ok (.iaload, 1) := by decide +kernel
theorem dX6_beside_73 : decode cX6_beside 73 = .ok (.if_icmp .ge 8, 3) := by decide +kernel
theorem dX6_beside_76 : decode cX6_beside 76 = .ok (.iload 4, 2) := by decide +kernel
theorem dX6_beside_78 : decode cX6_beside 78 = .ok (.goto 9, 3) := by decide +kernel
theorem dX6_beside_81 : decode cX6_beside 81 = .ok (.aload_n 0, 1) := by decide +kernel
theorem dX6_beside_82 : decode cX6_beside 82 = .ok (.getfield 95, 3) := by decide +kernel
theorem dX6_beside_85 : decode cX6_beside 85 = .ok (.iload_n 2, 1) := by decide +kernel
theorem dX6_beside_86 : decode cX6_beside 86 = .ok (.iaload, 1) := by decide +kernel
theorem dX6_beside_87 : decode cX6_beside 87 = .ok (.iastore, 1) := by decide +kernel
theorem dX6_beside_88 : decode cX6_beside 88 = .ok (.iinc 3 1, 3) := by decide +kernel
theorem dX6_beside_91 : decode cX6_beside 91 = .ok (.goto (-66), 3) := by decide +kernel
theorem dX6_beside_94 : decode cX6_beside 94 = .ok (.iinc 2 1, 3) := by decide +kernel
theorem dX6_beside_97 : decode cX6_beside 97 = .ok (.goto (-88), 3) := by decide +kernel
theorem dX6_beside_100 : decode cX6_beside 100 = .ok (.return_, 1) := by decide +kernel
theorem dX6_either_0 : decode cX6_either 0 = .ok (.iconst 0, 1) := by decide +kernel
theorem dX6_either_1 : decode cX6_either 1 = .ok (.istore_n 1, 1) := by decide +kernel
theorem dX6_either_2 : decode cX6_either 2 = .ok (.iload_n 1, 1) := by decide +kernel
theorem dX6_either_3 : decode cX6_either 3 = .ok (.bipush 64, 2) := by decide +kernel
theorem dX6_either_5 : decode cX6_either 5 = .ok (.if_icmp .ge 45, 3) := by decide +kernel
theorem dX6_either_8 : decode cX6_either 8 = .ok (.aload_n 0, 1) := by decide +kernel
theorem dX6_either_9 : decode cX6_either 9 = .ok (.getfield 95, 3) := by decide +kernel
theorem dX6_either_12 : decode cX6_either 12 = .ok (.iload_n 1, 1) := by decide +kernel
theorem dX6_either_13 : decode cX6_either 13 = .ok (.aload_n 0, 1) := by decide +kernel
theorem dX6_either_14 : decode cX6_either 14 = .ok (.getfield 89, 3) := by decide +kernel
theorem dX6_either_17 : decode cX6_either 17 = .ok (.iload_n 1, 1) := by decide +kernel
theorem dX6_either_18 : decode cX6_either 18 = .ok (.iaload, 1) := by decide +kernel
theorem dX6_either_19 : decode cX6_either 19 = .ok (.aload_n 0, 1) := by decide +kernel
theorem dX6_either_20 : decode cX6_either 20 = .ok (.getfield 92, 3) := by decide +kernel
theorem dX6_either_23 : decode cX6_either 23 = .ok (.iload_n 1, 1) := by decide +kernel
theorem dX6_either_24 : decode cX6_either 24 = .ok (.iaload, 1) := by decide +kernel
theorem dX6_either_25 : decode cX6_either 25 = .ok (.if_icmp .ge 12, 3) := by decide +kernel
theorem dX6_either_28 : decode cX6_either 28 = .ok (.aload_n 0, 1) := by decide +kernel
theorem dX6_either_29 : decode cX6_either 29 = .ok (.getfield 89, 3) := by decide +kernel
theorem dX6_either_32 : decode cX6_either 32 = .ok (.iload_n 1, 1) := by decide +kernel
theorem dX6_either_33 : decode cX6_either 33 = .ok (.iaload, 1) := by decide +kernel
theorem dX6_either_34 : decode cX6_either 34 = .ok (.goto 9, 3) := by decide +kernel
theorem dX6_either_37 : decode cX6_either 37 = .ok (.aload_n 0, 1) := by decide +kernel
theorem dX6_either_38 : decode cX6_either 38 = .ok (.getfield 92, 3) := by decide +kernel
theorem dX6_either_41 : decode cX6_either 41 = .ok (.iload_n 1, 1) := by decide +kernel
theorem dX6_either_42 : decode cX6_either 42 = .ok (.iaload, 1) := by decide +kernel
theorem dX6_either_43 : decode cX6_either 43 = .ok (.iastore, 1) := by decide +kernel
theorem dX6_either_44 : decode cX6_either 44 = .ok (.iinc 1 1, 3) := by decide +kernel
theorem dX6_either_47 : decode cX6_either 47 = .ok (.goto (-45), 3) := by decide +kernel
theorem dX6_either_50 : decode cX6_either 50 = .ok (.return_, 1) := by decide +kernel
theorem dX6_layLoop_0 : decode cX6_layLoop 0 = .ok (.iconst 1, 1) := by decide +kernel
theorem dX6_layLoop_1 : decode cX6_layLoop 1 = .ok (.aload_n 0, 1) := by decide +kernel
theorem dX6_layLoop_2 : decode cX6_layLoop 2 = .ok (.getfield 254, 3) := by decide +kernel
theorem dX6_layLoop_5 : decode cX6_layLoop 5 = .ok (.ishl, 1) := by decide +kernel
theorem dX6_layLoop_6 : decode cX6_layLoop 6 = .ok (.istore_n 2, 1) := by decide +kernel
theorem dX6_layLoop_7 : decode cX6_layLoop 7 = .ok (.aload_n 0, 1) := by decide +kernel
theorem dX6_layLoop_8 : decode cX6_layLoop 8 = .ok (.getfield 59, 3) := by decide +kernel
theorem dX6_layLoop_11 : decode cX6_layLoop 11 = .ok (.aload_n 0, 1) := by decide +kernel
theorem dX6_layLoop_12 : decode cX6_layLoop 12 = .ok (.getfield 53, 3) := by decide +kernel
theorem dX6_layLoop_15 : decode cX6_layLoop 15 = .ok (.iload_n 1, 1) := by decide +kernel
theorem dX6_layLoop_16 : decode cX6_layLoop 16 = .ok (.iaload, 1) := by decide +kernel
theorem dX6_layLoop_17 : decode cX6_layLoop 17 = .ok (.iaload, 1) := by decide +kernel
theorem dX6_layLoop_18 : decode cX6_layLoop 18 = .ok (.istore_n 3, 1) := by decide +kernel
theorem dX6_layLoop_19 : decode cX6_layLoop 19 = .ok (.iconst 0, 1) := by decide +kernel
theorem dX6_layLoop_20 : decode cX6_layLoop 20 = .ok (.istore 4, 2) := by decide +kernel
theorem dX6_layLoop_22 : decode cX6_layLoop 22 = .ok (.iload 4, 2) := by decide +kernel
theorem dX6_layLoop_24 : decode cX6_layLoop 24 = .ok (.bipush 64, 2) := by decide +kernel
theorem dX6_layLoop_26 : decode cX6_layLoop 26 = .ok (.if_icmp .ge 19, 3) := by decide +kernel
theorem dX6_layLoop_29 : decode cX6_layLoop 29 = .ok (.aload_n 0, 1) := by decide +kernel
theorem dX6_layLoop_30 : decode cX6_layLoop 30 = .ok (.getfield 98, 3) := by decide +kernel
theorem dX6_layLoop_33 : decode cX6_layLoop 33 = .ok (.iload 4, 2) := by decide +kernel
theorem dX6_layLoop_35 : decode cX6_layLoop 35 = .ok (.ldc_w 257, 3) := by decide +kernel
theorem dX6_layLoop_38 : decode cX6_layLoop 38 = .ok (.iastore, 1) := by decide +kernel
theorem dX6_layLoop_39 : decode cX6_layLoop 39 = .ok (.iinc 4 1, 3) := by decide +kernel
theorem dX6_layLoop_42 : decode cX6_layLoop 42 = .ok (.goto (-20), 3) := by decide +kernel
theorem dX6_layLoop_45 : decode cX6_layLoop 45 = .ok (.iconst 1, 1) := by decide +kernel
theorem dX6_layLoop_46 : decode cX6_layLoop 46 = .ok (.istore 4, 2) := by decide +kernel
theorem dX6_layLoop_48 : decode cX6_layLoop 48 = .ok (.iload 4, 2) := by decide +kernel
theorem dX6_layLoop_50 : decode cX6_layLoop 50 = .ok (.aload_n 0, 1) := by decide +kernel
theorem dX6_layLoop_51 : decode cX6_layLoop 51 = .ok (.getfield 56, 3) := by decide +kernel
theorem dX6_layLoop_54 : decode cX6_layLoop 54 = .ok (.iload_n 1, 1) := by decide +kernel
theorem dX6_layLoop_55 : decode cX6_layLoop 55 = .ok (.iaload, 1) := by decide +kernel
theorem dX6_layLoop_56 : decode cX6_layLoop 56 = .ok (.if_icmp .ge 100, 3) := by decide +kernel
theorem dX6_layLoop_59 : decode cX6_layLoop 59 = .ok (.aload_n 0, 1) := by decide +kernel
theorem dX6_layLoop_60 : decode cX6_layLoop 60 = .ok (.aload_n 0, 1) := by decide +kernel
theorem dX6_layLoop_61 : decode cX6_layLoop 61 = .ok (.getfield 89, 3) := by decide +kernel
theorem dX6_layLoop_64 : decode cX6_layLoop 64 = .ok (.aload_n 0, 1) := by decide +kernel
theorem dX6_layLoop_65 : decode cX6_layLoop 65 = .ok (.getfield 59, 3) := by decide +kernel
theorem dX6_layLoop_68 : decode cX6_layLoop 68 = .ok (.aload_n 0, 1) := by decide +kernel
theorem dX6_layLoop_69 : decode cX6_layLoop 69 = .ok (.getfield 53, 3) := by decide +kernel
theorem dX6_layLoop_72 : decode cX6_layLoop 72 = .ok (.iload_n 1, 1) := by decide +kernel
theorem dX6_layLoop_73 : decode cX6_layLoop 73 = .ok (.iaload, 1) := by decide +kernel
theorem dX6_layLoop_74 : decode cX6_layLoop 74 = .ok (.iload 4, 2) := by decide +kernel
theorem dX6_layLoop_76 : decode cX6_layLoop 76 = .ok (.iadd, 1) := by decide +kernel
theorem dX6_layLoop_77 : decode cX6_layLoop 77 = .ok (.iaload, 1) := by decide +kernel
theorem dX6_layLoop_78 : decode cX6_layLoop 78 = .ok (.invokevirtual 258, 3) := by decide +kernel
theorem dX6_layLoop_81 : decode cX6_layLoop 81 = .ok (.aload_n 0, 1) := by decide +kernel
theorem dX6_layLoop_82 : decode cX6_layLoop 82 = .ok (.aload_n 0, 1) := by decide +kernel
theorem dX6_layLoop_83 : decode cX6_layLoop 83 = .ok (.getfield 92, 3) := by decide +kernel
theorem dX6_layLoop_86 : decode cX6_layLoop 86 = .ok (.iload_n 3, 1) := by decide +kernel
theorem dX6_layLoop_87 : decode cX6_layLoop 87 = .ok (.invokevirtual 258, 3) := by decide +kernel
theorem dX6_layLoop_90 : decode cX6_layLoop 90 = .ok (.aload_n 0, 1) := by decide +kernel
theorem dX6_layLoop_91 : decode cX6_layLoop 91 = .ok (.invokevirtual 262, 3) := by decide +kernel
theorem dX6_layLoop_94 : decode cX6_layLoop 94 = .ok (.iconst 0, 1) := by decide +kernel
theorem dX6_layLoop_95 : decode cX6_layLoop 95 = .ok (.istore 5, 2) := by decide +kernel
theorem dX6_layLoop_97 : decode cX6_layLoop 97 = .ok (.iload 5, 2) := by decide +kernel
theorem dX6_layLoop_99 : decode cX6_layLoop 99 = .ok (.iload_n 2, 1) := by decide +kernel
theorem dX6_layLoop_100 : decode cX6_layLoop 100 = .ok (.if_icmp .ge 50, 3) := by decide +kernel
theorem dX6_layLoop_103 : decode cX6_layLoop 103 = .ok (.aload_n 0, 1) := by decide +kernel
theorem dX6_layLoop_104 : decode cX6_layLoop 104 = .ok (.getfield 98, 3) := by decide +kernel
theorem dX6_layLoop_107 : decode cX6_layLoop 107 = .ok (.iload 5, 2) := by decide +kernel
theorem dX6_layLoop_109 : decode cX6_layLoop 109 = .ok (.aload_n 0, 1) := by decide +kernel
theorem dX6_layLoop_110 : decode cX6_layLoop 110 = .ok (.getfield 95, 3) := by decide +kernel
theorem dX6_layLoop_113 : decode cX6_layLoop 113 = .ok (.iload 5, 2) := by decide +kernel
theorem dX6_layLoop_115 : decode cX6_layLoop 115 = .ok (.iaload, 1) := by decide +kernel
theorem dX6_layLoop_116 : decode cX6_layLoop 116 = .ok (.aload_n 0, 1) := by decide +kernel
theorem dX6_layLoop_117 : decode cX6_layLoop 117 = .ok (.getfield 98, 3) := by decide +kernel
theorem dX6_layLoop_120 : decode cX6_layLoop 120 = .ok (.iload 5, 2) := by decide +kernel
theorem dX6_layLoop_122 : decode cX6_layLoop 122 = .ok (.iaload, 1) := by decide +kernel
theorem dX6_layLoop_123 : decode cX6_layLoop 123 = .ok (.if_icmp .ge 13, 3) := by decide +kernel
theorem dX6_layLoop_126 : decode cX6_layLoop 126 = .ok (.aload_n 0, 1) := by decide +kernel
theorem dX6_layLoop_127 : decode cX6_layLoop 127 = .ok (.getfield 95, 3) := by decide +kernel
theorem dX6_layLoop_130 : decode cX6_layLoop 130 = .ok (.iload 5, 2) := by decide +kernel
theorem dX6_layLoop_132 : decode cX6_layLoop 132 = .ok (.iaload, 1) := by decide +kernel
theorem dX6_layLoop_133 : decode cX6_layLoop 133 = .ok (.goto 10, 3) := by decide +kernel
theorem dX6_layLoop_136 : decode cX6_layLoop 136 = .ok (.aload_n 0, 1) := by decide +kernel
theorem dX6_layLoop_137 : decode cX6_layLoop 137 = .ok (.getfield 98, 3) := by decide +kernel
theorem dX6_layLoop_140 : decode cX6_layLoop 140 = .ok (.iload 5, 2) := by decide +kernel
theorem dX6_layLoop_142 : decode cX6_layLoop 142 = .ok (.iaload, 1) := by decide +kernel
theorem dX6_layLoop_143 : decode cX6_layLoop 143 = .ok (.iastore, 1) := by decide +kernel
theorem dX6_layLoop_144 : decode cX6_layLoop 144 = .ok (.iinc 5 1, 3) := by decide +kernel
theorem dX6_layLoop_147 : decode cX6_layLoop 147 = .ok (.goto (-50), 3) := by decide +kernel
theorem dX6_layLoop_150 : decode cX6_layLoop 150 = .ok (.iinc 4 1, 3) := by decide +kernel
theorem dX6_layLoop_153 : decode cX6_layLoop 153 = .ok (.goto (-105), 3) := by decide +kernel
theorem dX6_layLoop_156 : decode cX6_layLoop 156 = .ok (.aload_n 0, 1) := by decide +kernel
theorem dX6_layLoop_157 : decode cX6_layLoop 157 = .ok (.aload_n 0, 1) := by decide +kernel
theorem dX6_layLoop_158 : decode cX6_layLoop 158 = .ok (.getfield 95, 3) := by decide +kernel
theorem dX6_layLoop_161 : decode cX6_layLoop 161 = .ok (.iload_n 3, 1) := by decide +kernel
theorem dX6_layLoop_162 : decode cX6_layLoop 162 = .ok (.invokevirtual 258, 3) := by decide +kernel
theorem dX6_layLoop_165 : decode cX6_layLoop 165 = .ok (.iconst 0, 1) := by decide +kernel
theorem dX6_layLoop_166 : decode cX6_layLoop 166 = .ok (.istore 4, 2) := by decide +kernel
theorem dX6_layLoop_168 : decode cX6_layLoop 168 = .ok (.iload 4, 2) := by decide +kernel
theorem dX6_layLoop_170 : decode cX6_layLoop 170 = .ok (.iload_n 2, 1) := by decide +kernel
theorem dX6_layLoop_171 : decode cX6_layLoop 171 = .ok (.if_icmp .ge 102, 3) := by decide +kernel
theorem dX6_layLoop_174 : decode cX6_layLoop 174 = .ok (.iconst 0, 1) := by decide +kernel
theorem dX6_layLoop_175 : decode cX6_layLoop 175 = .ok (.istore 5, 2) := by decide +kernel
theorem dX6_layLoop_177 : decode cX6_layLoop 177 = .ok (.iload 5, 2) := by decide +kernel
theorem dX6_layLoop_179 : decode cX6_layLoop 179 = .ok (.aload_n 0, 1) := by decide +kernel
theorem dX6_layLoop_180 : decode cX6_layLoop 180 = .ok (.getfield 254, 3) := by decide +kernel
theorem dX6_layLoop_183 : decode cX6_layLoop 183 = .ok (.if_icmp .ge 84, 3) := by decide +kernel
theorem dX6_layLoop_186 : decode cX6_layLoop 186 = .ok (.iload 4, 2) := by decide +kernel
theorem dX6_layLoop_188 : decode cX6_layLoop 188 = .ok (.iconst 1, 1) := by decide +kernel
theorem dX6_layLoop_189 : decode cX6_layLoop 189 = .ok (.iload 5, 2) := by decide +kernel
theorem dX6_layLoop_191 : decode cX6_layLoop 191 = .ok (.ishl, 1) := by decide +kernel
theorem dX6_layLoop_192 : decode cX6_layLoop 192 = .ok (.iconst 1, 1) := by decide +kernel
theorem dX6_layLoop_193 : decode cX6_layLoop 193 = .ok (.isub, 1) := by decide +kernel
theorem dX6_layLoop_194 : decode cX6_layLoop 194 = .ok (.iand, 1) := by decide +kernel
theorem dX6_layLoop_195 : decode cX6_layLoop 195 = .ok (.istore 6, 2) := by decide +kernel
theorem dX6_layLoop_197 : decode cX6_layLoop 197 = .ok (.iload 6, 2) := by decide +kernel
theorem dX6_layLoop_199 : decode cX6_layLoop 199 = .ok (.iload 4, 2) := by decide +kernel
theorem dX6_layLoop_201 : decode cX6_layLoop 201 = .ok (.if_icmp .ne 9, 3) := by decide +kernel
theorem dX6_layLoop_204 : decode cX6_layLoop 204 = .ok (.ldc_w 257, 3) := by decide +kernel
theorem dX6_layLoop_207 : decode cX6_layLoop 207 = .ok (.goto 21, 3) := by decide +kernel
theorem dX6_layLoop_210 : decode cX6_layLoop 210 = .ok (.aload_n 0, 1) := by decide +kernel
theorem dX6_layLoop_211 : decode cX6_layLoop 211 = .ok (.getfield 95, 3) := by decide +kernel
theorem dX6_layLoop_214 : decode cX6_layLoop 214 = .ok (.iload 6, 2) := by decide +kernel
theorem dX6_layLoop_216 : decode cX6_layLoop 216 = .ok (.iaload, 1) := by decide +kernel
theorem dX6_layLoop_217 : decode cX6_layLoop 217 = .ok (.aload_n 0, 1) := by decide +kernel
theorem dX6_layLoop_218 : decode cX6_layLoop 218 = .ok (.getfield 98, 3) := by decide +kernel
theorem dX6_layLoop_221 : decode cX6_layLoop 221 = .ok (.iload 4, 2) := by decide +kernel
theorem dX6_layLoop_223 : decode cX6_layLoop 223 = .ok (.iload 6, 2) := by decide +kernel
theorem dX6_layLoop_225 : decode cX6_layLoop 225 = .ok (.isub, 1) := by decide +kernel
theorem dX6_layLoop_226 : decode cX6_layLoop 226 = .ok (.iaload, 1) := by decide +kernel
theorem dX6_layLoop_227 : decode cX6_layLoop 227 = .ok (.iadd, 1) := by decide +kernel
theorem dX6_layLoop_228 : decode cX6_layLoop 228 = .ok (.istore 7, 2) := by decide +kernel
theorem dX6_layLoop_230 : decode cX6_layLoop 230 = .ok (.aload_n 0, 1) := by decide +kernel
theorem dX6_layLoop_231 : decode cX6_layLoop 231 = .ok (.getfield 95, 3) := by decide +kernel
theorem dX6_layLoop_234 : decode cX6_layLoop 234 = .ok (.iload 4, 2) := by decide +kernel
theorem dX6_layLoop_236 : decode cX6_layLoop 236 = .ok (.iload 7, 2) := by decide +kernel
theorem dX6_layLoop_238 : decode cX6_layLoop 238 = .ok (.aload_n 0, 1) := by decide +kernel
theorem dX6_layLoop_239 : decode cX6_layLoop 239 = .ok (.getfield 95, 3) := by decide +kernel
theorem dX6_layLoop_242 : decode cX6_layLoop 242 = .ok (.iload 4, 2) := by decide +kernel
theorem dX6_layLoop_244 : decode cX6_layLoop 244 = .ok (.iaload, 1) := by decide +kernel
theorem dX6_layLoop_245 : decode cX6_layLoop 245 = .ok (.if_icmp .ge 8, 3) := by decide +kernel
theorem dX6_layLoop_248 : decode cX6_layLoop 248 = .ok (.iload 7, 2) := by decide +kernel
theorem dX6_layLoop_250 : decode cX6_layLoop 250 = .ok (.goto 10, 3) := by decide +kernel
theorem dX6_layLoop_253 : decode cX6_layLoop 253 = .ok (.aload_n 0, 1) := by decide +kernel
theorem dX6_layLoop_254 : decode cX6_layLoop 254 = .ok (.getfield 95, 3) := by decide +kernel
theorem dX6_layLoop_257 : decode cX6_layLoop 257 = .ok (.iload 4, 2) := by decide +kernel
theorem dX6_layLoop_259 : decode cX6_layLoop 259 = .ok (.iaload, 1) := by decide +kernel
theorem dX6_layLoop_260 : decode cX6_layLoop 260 = .ok (.iastore, 1) := by decide +kernel
theorem dX6_layLoop_261 : decode cX6_layLoop 261 = .ok (.iinc 5 1, 3) := by decide +kernel
theorem dX6_layLoop_264 : decode cX6_layLoop 264 = .ok (.goto (-87), 3) := by decide +kernel
theorem dX6_layLoop_267 : decode cX6_layLoop 267 = .ok (.iinc 4 1, 3) := by decide +kernel
theorem dX6_layLoop_270 : decode cX6_layLoop 270 = .ok (.goto (-102), 3) := by decide +kernel
theorem dX6_layLoop_273 : decode cX6_layLoop 273 = .ok (.return_, 1) := by decide +kernel
theorem dX6_layNode_0 : decode cX6_layNode 0 = .ok (.iconst 0, 1) := by decide +kernel
theorem dX6_layNode_1 : decode cX6_layNode 1 = .ok (.istore_n 2, 1) := by decide +kernel
theorem dX6_layNode_2 : decode cX6_layNode 2 = .ok (.iload_n 2, 1) := by decide +kernel
theorem dX6_layNode_3 : decode cX6_layNode 3 = .ok (.bipush 64, 2) := by decide +kernel
theorem dX6_layNode_5 : decode cX6_layNode 5 = .ok (.if_icmp .ge 18, 3) := by decide +kernel
theorem dX6_layNode_8 : decode cX6_layNode 8 = .ok (.aload_n 0, 1) := by decide +kernel
theorem dX6_layNode_9 : decode cX6_layNode 9 = .ok (.getfield 95, 3) := by decide +kernel
theorem dX6_layNode_12 : decode cX6_layNode 12 = .ok (.iload_n 2, 1) := by decide +kernel
theorem dX6_layNode_13 : decode cX6_layNode 13 = .ok (.ldc_w 257, 3) := by decide +kernel
theorem dX6_layNode_16 : decode cX6_layNode 16 = .ok (.iastore, 1) := by decide +kernel
theorem dX6_layNode_17 : decode cX6_layNode 17 = .ok (.iinc 2 1, 3) := by decide +kernel
theorem dX6_layNode_20 : decode cX6_layNode 20 = .ok (.goto (-18), 3) := by decide +kernel
theorem dX6_layNode_23 : decode cX6_layNode 23 = .ok (.aload_n 0, 1) := by decide +kernel
theorem dX6_layNode_24 : decode cX6_layNode 24 = .ok (.getfield 47, 3) := by decide +kernel
theorem dX6_layNode_27 : decode cX6_layNode 27 = .ok (.iload_n 1, 1) := by decide +kernel
theorem dX6_layNode_28 : decode cX6_layNode 28 = .ok (.iaload, 1) := by decide +kernel
theorem dX6_layNode_29 : decode cX6_layNode 29 = .ok (.ifCond .ne 59, 3) := by decide +kernel
theorem dX6_layNode_32 : decode cX6_layNode 32 = .ok (.aload_n 0, 1) := by decide +kernel
theorem dX6_layNode_33 : decode cX6_layNode 33 = .ok (.getfield 95, 3) := by decide +kernel
theorem dX6_layNode_36 : decode cX6_layNode 36 = .ok (.iconst 0, 1) := by decide +kernel
theorem dX6_layNode_37 : decode cX6_layNode 37 = .ok (.iconst 1, 1) := by decide +kernel
theorem dX6_layNode_38 : decode cX6_layNode 38 = .ok (.iastore, 1) := by decide +kernel
theorem dX6_layNode_39 : decode cX6_layNode 39 = .ok (.iconst 0, 1) := by decide +kernel
theorem dX6_layNode_40 : decode cX6_layNode 40 = .ok (.istore_n 2, 1) := by decide +kernel
theorem dX6_layNode_41 : decode cX6_layNode 41 = .ok (.iload_n 2, 1) := by decide +kernel
theorem dX6_layNode_42 : decode cX6_layNode 42 = .ok (.aload_n 0, 1) := by decide +kernel
theorem dX6_layNode_43 : decode cX6_layNode 43 = .ok (.getfield 254, 3) := by decide +kernel
theorem dX6_layNode_46 : decode cX6_layNode 46 = .ok (.if_icmp .ge 39, 3) := by decide +kernel
theorem dX6_layNode_49 : decode cX6_layNode 49 = .ok (.aload_n 0, 1) := by decide +kernel
theorem dX6_layNode_50 : decode cX6_layNode 50 = .ok (.getfield 95, 3) := by decide +kernel
theorem dX6_layNode_53 : decode cX6_layNode 53 = .ok (.iconst 1, 1) := by decide +kernel
theorem dX6_layNode_54 : decode cX6_layNode 54 = .ok (.iload_n 2, 1) := by decide +kernel
theorem dX6_layNode_55 : decode cX6_layNode 55 = .ok (.ishl, 1) := by decide +kernel
theorem dX6_layNode_56 : decode cX6_layNode 56 = .ok (.aload_n 0, 1) := by decide +kernel
theorem dX6_layNode_57 : decode cX6_layNode 57 = .ok (.getfield 83, 3) := by decide +kernel
theorem dX6_layNode_60 : decode cX6_layNode 60 = .ok (.iload_n 2, 1) := by decide +kernel
theorem dX6_layNode_61 : decode cX6_layNode 61 = .ok (.iaload, 1) := by decide +kernel
theorem dX6_layNode_62 : decode cX6_layNode 62 = .ok (.aload_n 0, 1) := by decide +kernel
theorem dX6_layNode_63 : decode cX6_layNode 63 = .ok (.getfield 50, 3) := by decide +kernel
theorem dX6_layNode_66 : decode cX6_layNode 66 = .ok (.iload_n 1, 1) := by decide +kernel
theorem dX6_layNode_67 : decode cX6_layNode 67 = .ok (.iaload, 1) := by decide +kernel
theorem dX6_layNode_68 : decode cX6_layNode 68 = .ok (.if_icmp .ne 7, 3) := by decide +kernel
theorem dX6_layNode_71 : decode cX6_layNode 71 = .ok (.iconst 0, 1) := by decide +kernel
theorem dX6_layNode_72 : decode cX6_layNode 72 = .ok (.goto 6, 3) := by decide +kernel
theorem dX6_layNode_75 : decode cX6_layNode 75 = .ok (.ldc_w 257, 3) := by decide +kernel
theorem dX6_layNode_78 : decode cX6_layNode 78 = .ok (.iastore, 1) := by decide +kernel
theorem dX6_layNode_79 : decode cX6_layNode 79 = .ok (.iinc 2 1, 3) := by decide +kernel
theorem dX6_layNode_82 : decode cX6_layNode 82 = .ok (.goto (-41), 3) := by decide +kernel
theorem dX6_layNode_85 : decode cX6_layNode 85 = .ok (.goto 163, 3) := by decide +kernel
theorem dX6_layNode_88 : decode cX6_layNode 88 = .ok (.aload_n 0, 1) := by decide +kernel
theorem dX6_layNode_89 : decode cX6_layNode 89 = .ok (.getfield 47, 3) := by decide +kernel
theorem dX6_layNode_92 : decode cX6_layNode 92 = .ok (.iload_n 1, 1) := by decide +kernel
theorem dX6_layNode_93 : decode cX6_layNode 93 = .ok (.iaload, 1) := by decide +kernel
theorem dX6_layNode_94 : decode cX6_layNode 94 = .ok (.iconst 1, 1) := by decide +kernel
theorem dX6_layNode_95 : decode cX6_layNode 95 = .ok (.if_icmp .ne 13, 3) := by decide +kernel
theorem dX6_layNode_98 : decode cX6_layNode 98 = .ok (.aload_n 0, 1) := by decide +kernel
theorem dX6_layNode_99 : decode cX6_layNode 99 = .ok (.getfield 95, 3) := by decide +kernel
theorem dX6_layNode_102 : decode cX6_layNode 102 = .ok (.iconst 0, 1) := by decide +kernel
theorem dX6_layNode_103 : decode cX6_layNode 103 = .ok (.iconst 0, 1) := by decide +kernel
theorem dX6_layNode_104 : decode cX6_layNode 104 = .ok (.iastore, 1) := by decide +kernel
theorem dX6_layNode_105 : decode cX6_layNode 105 = .ok (.goto 143, 3) := by decide +kernel
theorem dX6_layNode_108 : decode cX6_layNode 108 = .ok (.aload_n 0, 1) := by decide +kernel
theorem dX6_layNode_109 : decode cX6_layNode 109 = .ok (.getfield 47, 3) := by decide +kernel
theorem dX6_layNode_112 : decode cX6_layNode 112 = .ok (.iload_n 1, 1) := by decide +kernel
theorem dX6_layNode_113 : decode cX6_layNode 113 = .ok (.iaload, 1) := by decide +kernel
theorem dX6_layNode_114 : decode cX6_layNode 114 = .ok (.iconst 5, 1) := by decide +kernel
theorem dX6_layNode_115 : decode cX6_layNode 115 = .ok (.if_icmp .ne 11, 3) := by decide +kernel
theorem dX6_layNode_118 : decode cX6_layNode 118 = .ok (.aload_n 0, 1) := by decide +kernel
theorem dX6_layNode_119 : decode cX6_layNode 119 = .ok (.iload_n 1, 1) := by decide +kernel
theorem dX6_layNode_120 : decode cX6_layNode 120 = .ok (.invokevirtual 265, 3) := by decide +kernel
theorem dX6_layNode_123 : decode cX6_layNode 123 = .ok (.goto 125, 3) := by decide +kernel
theorem dX6_layNode_126 : decode cX6_layNode 126 = .ok (.aload_n 0, 1) := by decide +kernel
theorem dX6_layNode_127 : decode cX6_layNode 127 = .ok (.aload_n 0, 1) := by decide +kernel
theorem dX6_layNode_128 : decode cX6_layNode 128 = .ok (.getfield 95, 3) := by decide +kernel
theorem dX6_layNode_131 : decode cX6_layNode 131 = .ok (.aload_n 0, 1) := by decide +kernel
theorem dX6_layNode_132 : decode cX6_layNode 132 = .ok (.getfield 59, 3) := by decide +kernel
theorem dX6_layNode_135 : decode cX6_layNode 135 = .ok (.aload_n 0, 1) := by decide +kernel
theorem dX6_layNode_136 : decode cX6_layNode 136 = .ok (.getfield 53, 3) := by decide +kernel
theorem dX6_layNode_139 : decode cX6_layNode 139 = .ok (.iload_n 1, 1) := by decide +kernel
theorem dX6_layNode_140 : decode cX6_layNode 140 = .ok (.iaload, 1) := by decide +kernel
theorem dX6_layNode_141 : decode cX6_layNode 141 = .ok (.iaload, 1) := by decide +kernel
theorem dX6_layNode_142 : decode cX6_layNode 142 = .ok (.invokevirtual 258, 3) := by decide +kernel
theorem dX6_layNode_145 : decode cX6_layNode 145 = .ok (.iconst 1, 1) := by decide +kernel
theorem dX6_layNode_146 : decode cX6_layNode 146 = .ok (.istore_n 2, 1) := by decide +kernel
theorem dX6_layNode_147 : decode cX6_layNode 147 = .ok (.iload_n 2, 1) := by decide +kernel
theorem dX6_layNode_148 : decode cX6_layNode 148 = .ok (.aload_n 0, 1) := by decide +kernel
theorem dX6_layNode_149 : decode cX6_layNode 149 = .ok (.getfield 56, 3) := by decide +kernel
theorem dX6_layNode_152 : decode cX6_layNode 152 = .ok (.iload_n 1, 1) := by decide +kernel
theorem dX6_layNode_153 : decode cX6_layNode 153 = .ok (.iaload, 1) := by decide +kernel
theorem dX6_layNode_154 : decode cX6_layNode 154 = .ok (.if_icmp .ge 94, 3) := by decide +kernel
theorem dX6_layNode_157 : decode cX6_layNode 157 = .ok (.iconst 0, 1) := by decide +kernel
theorem dX6_layNode_158 : decode cX6_layNode 158 = .ok (.istore_n 3, 1) := by decide +kernel
theorem dX6_layNode_159 : decode cX6_layNode 159 = .ok (.iload_n 3, 1) := by decide +kernel
theorem dX6_layNode_160 : decode cX6_layNode 160 = .ok (.bipush 64, 2) := by decide +kernel
theorem dX6_layNode_162 : decode cX6_layNode 162 = .ok (.if_icmp .ge 21, 3) := by decide +kernel
theorem dX6_layNode_165 : decode cX6_layNode 165 = .ok (.aload_n 0, 1) := by decide +kernel
theorem dX6_layNode_166 : decode cX6_layNode 166 = .ok (.getfield 89, 3) := by decide +kernel
theorem dX6_layNode_169 : decode cX6_layNode 169 = .ok (.iload_n 3, 1) := by decide +kernel
theorem dX6_layNode_170 : decode cX6_layNode 170 = .ok (.aload_n 0, 1) := by decide +kernel
theorem dX6_layNode_171 : decode cX6_layNode 171 = .ok (.getfield 95, 3) := by decide +kernel
theorem dX6_layNode_174 : decode cX6_layNode 174 = .ok (.iload_n 3, 1) := by decide +kernel
theorem dX6_layNode_175 : decode cX6_layNode 175 = .ok (.iaload, 1) := by decide +kernel
theorem dX6_layNode_176 : decode cX6_layNode 176 = .ok (.iastore, 1) := by decide +kernel
theorem dX6_layNode_177 : decode cX6_layNode 177 = .ok (.iinc 3 1, 3) := by decide +kernel
theorem dX6_layNode_180 : decode cX6_layNode 180 = .ok (.goto (-21), 3) := by decide +kernel
theorem dX6_layNode_183 : decode cX6_layNode 183 = .ok (.aload_n 0, 1) := by decide +kernel
theorem dX6_layNode_184 : decode cX6_layNode 184 = .ok (.aload_n 0, 1) := by decide +kernel
theorem dX6_layNode_185 : decode cX6_layNode 185 = .ok (.getfield 92, 3) := by decide +kernel
theorem dX6_layNode_188 : decode cX6_layNode 188 = .ok (.aload_n 0, 1) := by decide +kernel
theorem dX6_layNode_189 : decode cX6_layNode 189 = .ok (.getfield 59, 3) := by decide +kernel
theorem dX6_layNode_192 : decode cX6_layNode 192 = .ok (.aload_n 0, 1) := by decide +kernel
theorem dX6_layNode_193 : decode cX6_layNode 193 = .ok (.getfield 53, 3) := by decide +kernel
theorem dX6_layNode_196 : decode cX6_layNode 196 = .ok (.iload_n 1, 1) := by decide +kernel
theorem dX6_layNode_197 : decode cX6_layNode 197 = .ok (.iaload, 1) := by decide +kernel
theorem dX6_layNode_198 : decode cX6_layNode 198 = .ok (.iload_n 2, 1) := by decide +kernel
theorem dX6_layNode_199 : decode cX6_layNode 199 = .ok (.iadd, 1) := by decide +kernel
theorem dX6_layNode_200 : decode cX6_layNode 200 = .ok (.iaload, 1) := by decide +kernel
theorem dX6_layNode_201 : decode cX6_layNode 201 = .ok (.invokevirtual 258, 3) := by decide +kernel
theorem dX6_layNode_204 : decode cX6_layNode 204 = .ok (.aload_n 0, 1) := by decide +kernel
theorem dX6_layNode_205 : decode cX6_layNode 205 = .ok (.getfield 47, 3) := by decide +kernel
theorem dX6_layNode_208 : decode cX6_layNode 208 = .ok (.iload_n 1, 1) := by decide +kernel
theorem dX6_layNode_209 : decode cX6_layNode 209 = .ok (.iaload, 1) := by decide +kernel
theorem dX6_layNode_210 : decode cX6_layNode 210 = .ok (.iconst 2, 1) := by decide +kernel
theorem dX6_layNode_211 : decode cX6_layNode 211 = .ok (.if_icmp .ne 10, 3) := by decide +kernel
theorem dX6_layNode_214 : decode cX6_layNode 214 = .ok (.aload_n 0, 1) := by decide +kernel
theorem dX6_layNode_215 : decode cX6_layNode 215 = .ok (.invokevirtual 262, 3) := by decide +kernel
theorem dX6_layNode_218 : decode cX6_layNode 218 = .ok (.goto 24, 3) := by decide +kernel
theorem dX6_layNode_221 : decode cX6_layNode 221 = .ok (.aload_n 0, 1) := by decide +kernel
theorem dX6_layNode_222 : decode cX6_layNode 222 = .ok (.getfield 47, 3) := by decide +kernel
theorem dX6_layNode_225 : decode cX6_layNode 225 = .ok (.iload_n 1, 1) := by decide +kernel
theorem dX6_layNode_226 : decode cX6_layNode 226 = .ok (.iaload, 1) := by decide +kernel
theorem dX6_layNode_227 : decode cX6_layNode 227 = .ok (.iconst 4, 1) := by decide +kernel
theorem dX6_layNode_228 : decode cX6_layNode 228 = .ok (.if_icmp .ne 10, 3) := by decide +kernel
theorem dX6_layNode_231 : decode cX6_layNode 231 = .ok (.aload_n 0, 1) := by decide +kernel
theorem dX6_layNode_232 : decode cX6_layNode 232 = .ok (.invokevirtual 268, 3) := by decide +kernel
theorem dX6_layNode_235 : decode cX6_layNode 235 = .ok (.goto 7, 3) := by decide +kernel
theorem dX6_layNode_238 : decode cX6_layNode 238 = .ok (.aload_n 0, 1) := by decide +kernel
theorem dX6_layNode_239 : decode cX6_layNode 239 = .ok (.invokevirtual 271, 3) := by decide +kernel
theorem dX6_layNode_242 : decode cX6_layNode 242 = .ok (.iinc 2 1, 3) := by decide +kernel
theorem dX6_layNode_245 : decode cX6_layNode 245 = .ok (.goto (-98), 3) := by decide +kernel
theorem dX6_layNode_248 : decode cX6_layNode 248 = .ok (.iconst 0, 1) := by decide +kernel
theorem dX6_layNode_249 : decode cX6_layNode 249 = .ok (.istore_n 2, 1) := by decide +kernel
theorem dX6_layNode_250 : decode cX6_layNode 250 = .ok (.iload_n 2, 1) := by decide +kernel
theorem dX6_layNode_251 : decode cX6_layNode 251 = .ok (.bipush 64, 2) := by decide +kernel
theorem dX6_layNode_253 : decode cX6_layNode 253 = .ok (.if_icmp .ge 44, 3) := by decide +kernel
theorem dX6_layNode_256 : decode cX6_layNode 256 = .ok (.aload_n 0, 1) := by decide +kernel
theorem dX6_layNode_257 : decode cX6_layNode 257 = .ok (.getfield 86, 3) := by decide +kernel
theorem dX6_layNode_260 : decode cX6_layNode 260 = .ok (.bipush 64, 2) := by decide +kernel
theorem dX6_layNode_262 : decode cX6_layNode 262 = .ok (.iload_n 1, 1) := by decide +kernel
theorem dX6_layNode_263 : decode cX6_layNode 263 = .ok (.imul, 1) := by decide +kernel
theorem dX6_layNode_264 : decode cX6_layNode 264 = .ok (.iload_n 2, 1) := by decide +kernel
theorem dX6_layNode_265 : decode cX6_layNode 265 = .ok (.iadd, 1) := by decide +kernel
theorem dX6_layNode_266 : decode cX6_layNode 266 = .ok (.aload_n 0, 1) := by decide +kernel
theorem dX6_layNode_267 : decode cX6_layNode 267 = .ok (.getfield 95, 3) := by decide +kernel
theorem dX6_layNode_270 : decode cX6_layNode 270 = .ok (.iload_n 2, 1) := by decide +kernel
theorem dX6_layNode_271 : decode cX6_layNode 271 = .ok (.iaload, 1) := by decide +kernel
theorem dX6_layNode_272 : decode cX6_layNode 272 = .ok (.ldc_w 257, 3) := by decide +kernel
theorem dX6_layNode_275 : decode cX6_layNode 275 = .ok (.if_icmp .le 9, 3) := by decide +kernel
theorem dX6_layNode_278 : decode cX6_layNode 278 = .ok (.ldc_w 257, 3) := by decide +kernel
theorem dX6_layNode_281 : decode cX6_layNode 281 = .ok (.goto 9, 3) := by decide +kernel
theorem dX6_layNode_284 : decode cX6_layNode 284 = .ok (.aload_n 0, 1) := by decide +kernel
theorem dX6_layNode_285 : decode cX6_layNode 285 = .ok (.getfield 95, 3) := by decide +kernel
theorem dX6_layNode_288 : decode cX6_layNode 288 = .ok (.iload_n 2, 1) := by decide +kernel
theorem dX6_layNode_289 : decode cX6_layNode 289 = .ok (.iaload, 1) := by decide +kernel
theorem dX6_layNode_290 : decode cX6_layNode 290 = .ok (.iastore, 1) := by decide +kernel
theorem dX6_layNode_291 : decode cX6_layNode 291 = .ok (.iinc 2 1, 3) := by decide +kernel
theorem dX6_layNode_294 : decode cX6_layNode 294 = .ok (.goto (-44), 3) := by decide +kernel
theorem dX6_layNode_297 : decode cX6_layNode 297 = .ok (.return_, 1) := by decide +kernel
theorem dX6_lay_0 : decode cX6_lay 0 = .ok (.aload_n 0, 1) := by decide +kernel
theorem dX6_lay_1 : decode cX6_lay 1 = .ok (.iload_n 1, 1) := by decide +kernel
theorem dX6_lay_2 : decode cX6_lay 2 = .ok (.putfield 254, 3) := by decide +kernel
theorem dX6_lay_5 : decode cX6_lay 5 = .ok (.aload_n 0, 1) := by decide +kernel
theorem dX6_lay_6 : decode cX6_lay 6 = .ok (.invokevirtual 219, 3) := by decide +kernel
theorem dX6_lay_9 : decode cX6_lay 9 = .ok (.aload_n 0, 1) := by decide +kernel
theorem dX6_lay_10 : decode cX6_lay 10 = .ok (.iload_n 2, 1) := by decide +kernel
theorem dX6_lay_11 : decode cX6_lay 11 = .ok (.invokevirtual 222, 3) := by decide +kernel
theorem dX6_lay_14 : decode cX6_lay 14 = .ok (.istore_n 3, 1) := by decide +kernel
theorem dX6_lay_15 : decode cX6_lay 15 = .ok (.aload_n 0, 1) := by decide +kernel
theorem dX6_lay_16 : decode cX6_lay 16 = .ok (.getfield 210, 3) := by decide +kernel
theorem dX6_lay_19 : decode cX6_lay 19 = .ok (.iconst 1, 1) := by decide +kernel
theorem dX6_lay_20 : decode cX6_lay 20 = .ok (.isub, 1) := by decide +kernel
theorem dX6_lay_21 : decode cX6_lay 21 = .ok (.istore 4, 2) := by decide +kernel
theorem dX6_lay_23 : decode cX6_lay 23 = .ok (.iload 4, 2) := by decide +kernel
theorem dX6_lay_25 : decode cX6_lay 25 = .ok (.ifCond .lt 15, 3) := by decide +kernel
theorem dX6_lay_28 : decode cX6_lay 28 = .ok (.aload_n 0, 1) := by decide +kernel
theorem dX6_lay_29 : decode cX6_lay 29 = .ok (.iload 4, 2) := by decide +kernel
theorem dX6_lay_31 : decode cX6_lay 31 = .ok (.invokevirtual 274, 3) := by decide +kernel
theorem dX6_lay_34 : decode cX6_lay 34 = .ok (.iinc 4 (-1), 3) := by decide +kernel
theorem dX6_lay_37 : decode cX6_lay 37 = .ok (.goto (-14), 3) := by decide +kernel
theorem dX6_lay_40 : decode cX6_lay 40 = .ok (.aload_n 0, 1) := by decide +kernel
theorem dX6_lay_41 : decode cX6_lay 41 = .ok (.ldc_w 257, 3) := by decide +kernel
theorem dX6_lay_44 : decode cX6_lay 44 = .ok (.putfield 277, 3) := by decide +kernel
theorem dX6_lay_47 : decode cX6_lay 47 = .ok (.aload_n 0, 1) := by decide +kernel
theorem dX6_lay_48 : decode cX6_lay 48 = .ok (.iconst 0, 1) := by decide +kernel
theorem dX6_lay_49 : decode cX6_lay 49 = .ok (.putfield 280, 3) := by decide +kernel
theorem dX6_lay_52 : decode cX6_lay 52 = .ok (.iconst 0, 1) := by decide +kernel
theorem dX6_lay_53 : decode cX6_lay 53 = .ok (.istore 4, 2) := by decide +kernel
theorem dX6_lay_55 : decode cX6_lay 55 = .ok (.iload 4, 2) := by decide +kernel
theorem dX6_lay_57 : decode cX6_lay 57 = .ok (.iconst 1, 1) := by decide +kernel
theorem dX6_lay_58 : decode cX6_lay 58 = .ok (.iload_n 1, 1) := by decide +kernel
theorem dX6_lay_59 : decode cX6_lay 59 = .ok (.ishl, 1) := by decide +kernel
theorem dX6_lay_60 : decode cX6_lay 60 = .ok (.if_icmp .ge 118, 3) := by decide +kernel
theorem dX6_lay_63 : decode cX6_lay 63 = .ok (.iconst 0, 1) := by decide +kernel
theorem dX6_lay_64 : decode cX6_lay 64 = .ok (.istore 5, 2) := by decide +kernel
theorem dX6_lay_66 : decode cX6_lay 66 = .ok (.iconst 0, 1) := by decide +kernel
theorem dX6_lay_67 : decode cX6_lay 67 = .ok (.istore 6, 2) := by decide +kernel
theorem dX6_lay_69 : decode cX6_lay 69 = .ok (.iconst 0, 1) := by decide +kernel
theorem dX6_lay_70 : decode cX6_lay 70 = .ok (.istore 7, 2) := by decide +kernel
theorem dX6_lay_72 : decode cX6_lay 72 = .ok (.iload 7, 2) := by decide +kernel
theorem dX6_lay_74 : decode cX6_lay 74 = .ok (.iload_n 1, 1) := by decide +kernel
theorem dX6_lay_75 : decode cX6_lay 75 = .ok (.if_icmp .ge 39, 3) := by decide +kernel
theorem dX6_lay_78 : decode cX6_lay 78 = .ok (.iload 5, 2) := by decide +kernel
theorem dX6_lay_80 : decode cX6_lay 80 = .ok (.iload 4, 2) := by decide +kernel
theorem dX6_lay_82 : decode cX6_lay 82 = .ok (.iload 7, 2) := by decide +kernel
theorem dX6_lay_84 : decode cX6_lay 84 = .ok (.ishr, 1) := by decide +kernel
theorem dX6_lay_85 : decode cX6_lay 85 = .ok (.iconst 1, 1) := by decide +kernel
theorem dX6_lay_86 : decode cX6_lay 86 = .ok (.iand, 1) := by decide +kernel
theorem dX6_lay_87 : decode cX6_lay 87 = .ok (.iadd, 1) := by decide +kernel
theorem dX6_lay_88 : decode cX6_lay 88 = .ok (.istore 5, 2) := by decide +kernel
theorem dX6_lay_90 : decode cX6_lay 90 = .ok (.iload 6, 2) := by decide +kernel
theorem dX6_lay_92 : decode cX6_lay 92 = .ok (.iload 4, 2) := by decide +kernel
theorem dX6_lay_94 : decode cX6_lay 94 = .ok (.iload 7, 2) := by decide +kernel
theorem dX6_lay_96 : decode cX6_lay 96 = .ok (.ishr, 1) := by decide +kernel
theorem dX6_lay_97 : decode cX6_lay 97 = .ok (.iconst 1, 1) := by decide +kernel
theorem dX6_lay_98 : decode cX6_lay 98 = .ok (.iand, 1) := by decide +kernel
theorem dX6_lay_99 : decode cX6_lay 99 = .ok (.bipush 32, 2) := by decide +kernel
theorem dX6_lay_101 : decode cX6_lay 101 = .ok (.iload 7, 2) := by decide +kernel
theorem dX6_lay_103 : decode cX6_lay 103 = .ok (.ishr, 1) := by decide +kernel
theorem dX6_lay_104 : decode cX6_lay 104 = .ok (.imul, 1) := by decide +kernel
theorem dX6_lay_105 : decode cX6_lay 105 = .ok (.iadd, 1) := by decide +kernel
theorem dX6_lay_106 : decode cX6_lay 106 = .ok (.istore 6, 2) := by decide +kernel
theorem dX6_lay_108 : decode cX6_lay 108 = .ok (.iinc 7 1, 3) := by decide +kernel
theorem dX6_lay_111 : decode cX6_lay 111 = .ok (.goto (-39), 3) := by decide +kernel
theorem dX6_lay_114 : decode cX6_lay 114 = .ok (.aload_n 0, 1) := by decide +kernel
theorem dX6_lay_115 : decode cX6_lay 115 = .ok (.getfield 86, 3) := by decide +kernel
theorem dX6_lay_118 : decode cX6_lay 118 = .ok (.bipush 64, 2) := by decide +kernel
theorem dX6_lay_120 : decode cX6_lay 120 = .ok (.iload_n 3, 1) := by decide +kernel
theorem dX6_lay_121 : decode cX6_lay 121 = .ok (.imul, 1) := by decide +kernel
theorem dX6_lay_122 : decode cX6_lay 122 = .ok (.iload 4, 2) := by decide +kernel
theorem dX6_lay_124 : decode cX6_lay 124 = .ok (.iadd, 1) := by decide +kernel
theorem dX6_lay_125 : decode cX6_lay 125 = .ok (.iaload, 1) := by decide +kernel
theorem dX6_lay_126 : decode cX6_lay 126 = .ok (.iload_n 1, 1) := by decide +kernel
theorem dX6_lay_127 : decode cX6_lay 127 = .ok (.iadd, 1) := by decide +kernel
theorem dX6_lay_128 : decode cX6_lay 128 = .ok (.iload 5, 2) := by decide +kernel
theorem dX6_lay_130 : decode cX6_lay 130 = .ok (.isub, 1) := by decide +kernel
theorem dX6_lay_131 : decode cX6_lay 131 = .ok (.istore 7, 2) := by decide +kernel
theorem dX6_lay_133 : decode cX6_lay 133 = .ok (.iload 7, 2) := by decide +kernel
theorem dX6_lay_135 : decode cX6_lay 135 = .ok (.aload_n 0, 1) := by decide +kernel
theorem dX6_lay_136 : decode cX6_lay 136 = .ok (.getfield 277, 3) := by decide +kernel
theorem dX6_lay_139 : decode cX6_lay 139 = .ok (.if_icmp .lt 21, 3) := by decide +kernel
theorem dX6_lay_142 : decode cX6_lay 142 = .ok (.iload 7, 2) := by decide +kernel
theorem dX6_lay_144 : decode cX6_lay 144 = .ok (.aload_n 0, 1) := by decide +kernel
theorem dX6_lay_145 : decode cX6_lay 145 = .ok (.getfield 277, 3) := by decide +kernel
theorem dX6_lay_148 : decode cX6_lay 148 = .ok (.if_icmp .ne 24, 3) := by decide +kernel
theorem dX6_lay_151 : decode cX6_lay 151 = .ok (.iload 6, 2) := by decide +kernel
theorem dX6_lay_153 : decode cX6_lay 153 = .ok (.aload_n 0, 1) := by decide +kernel
theorem dX6_lay_154 : decode cX6_lay 154 = .ok (.getfield 280, 3) := by decide +kernel
theorem dX6_lay_157 : decode cX6_lay 157 = .ok (.if_icmp .le 15, 3) := by decide +kernel
theorem dX6_lay_160 : decode cX6_lay 160 = .ok (.aload_n 0, 1) := by decide +kernel
theorem dX6_lay_161 : decode cX6_lay 161 = .ok (.iload 7, 2) := by decide +kernel
theorem dX6_lay_163 : decode cX6_lay 163 = .ok (.putfield 277, 3) := by decide +kernel
theorem dX6_lay_166 : decode cX6_lay 166 = .ok (.aload_n 0, 1) := by decide +kernel
theorem dX6_lay_167 : decode cX6_lay 167 = .ok (.iload 6, 2) := by decide +kernel
theorem dX6_lay_169 : decode cX6_lay 169 = .ok (.putfield 280, 3) := by decide +kernel
theorem dX6_lay_172 : decode cX6_lay 172 = .ok (.iinc 4 1, 3) := by decide +kernel
theorem dX6_lay_175 : decode cX6_lay 175 = .ok (.goto (-120), 3) := by decide +kernel
theorem dX6_lay_178 : decode cX6_lay 178 = .ok (.return_, 1) := by decide +kernel
theorem dX6_layCase_0 : decode cX6_layCase 0 = .ok (.iconst 0, 1) := by decide +kernel
theorem dX6_layCase_1 : decode cX6_layCase 1 = .ok (.istore_n 3, 1) := by decide +kernel
theorem dX6_layCase_2 : decode cX6_layCase 2 = .ok (.iload_n 3, 1) := by decide +kernel
theorem dX6_layCase_3 : decode cX6_layCase 3 = .ok (.aload_n 0, 1) := by decide +kernel
theorem dX6_layCase_4 : decode cX6_layCase 4 = .ok (.getfield 7, 3) := by decide +kernel
theorem dX6_layCase_7 : decode cX6_layCase 7 = .ok (.iload_n 1, 1) := by decide +kernel
theorem dX6_layCase_8 : decode cX6_layCase 8 = .ok (.iaload, 1) := by decide +kernel
theorem dX6_layCase_9 : decode cX6_layCase 9 = .ok (.if_icmp .ge 26, 3) := by decide +kernel
theorem dX6_layCase_12 : decode cX6_layCase 12 = .ok (.aload_n 0, 1) := by decide +kernel
theorem dX6_layCase_13 : decode cX6_layCase 13 = .ok (.getfield 83, 3) := by decide +kernel
theorem dX6_layCase_16 : decode cX6_layCase 16 = .ok (.iload_n 3, 1) := by decide +kernel
theorem dX6_layCase_17 : decode cX6_layCase 17 = .ok (.aload_n 0, 1) := by decide +kernel
theorem dX6_layCase_18 : decode cX6_layCase 18 = .ok (.getfield 17, 3) := by decide +kernel
theorem dX6_layCase_21 : decode cX6_layCase 21 = .ok (.bipush 6, 2) := by decide +kernel
theorem dX6_layCase_23 : decode cX6_layCase 23 = .ok (.iload_n 1, 1) := by decide +kernel
theorem dX6_layCase_24 : decode cX6_layCase 24 = .ok (.imul, 1) := by decide +kernel
theorem dX6_layCase_25 : decode cX6_layCase 25 = .ok (.iload_n 3, 1) := by decide +kernel
theorem dX6_layCase_26 : decode cX6_layCase 26 = .ok (.iadd, 1) := by decide +kernel
theorem dX6_layCase_27 : decode cX6_layCase 27 = .ok (.iaload, 1) := by decide +kernel
theorem dX6_layCase_28 : decode cX6_layCase 28 = .ok (.iastore, 1) := by decide +kernel
theorem dX6_layCase_29 : decode cX6_layCase 29 = .ok (.iinc 3 1, 3) := by decide +kernel
theorem dX6_layCase_32 : decode cX6_layCase 32 = .ok (.goto (-30), 3) := by decide +kernel
theorem dX6_layCase_35 : decode cX6_layCase 35 = .ok (.aload_n 0, 1) := by decide +kernel
theorem dX6_layCase_36 : decode cX6_layCase 36 = .ok (.aload_n 0, 1) := by decide +kernel
theorem dX6_layCase_37 : decode cX6_layCase 37 = .ok (.getfield 7, 3) := by decide +kernel
theorem dX6_layCase_40 : decode cX6_layCase 40 = .ok (.iload_n 1, 1) := by decide +kernel
theorem dX6_layCase_41 : decode cX6_layCase 41 = .ok (.iaload, 1) := by decide +kernel
theorem dX6_layCase_42 : decode cX6_layCase 42 = .ok (.iload_n 2, 1) := by decide +kernel
theorem dX6_layCase_43 : decode cX6_layCase 43 = .ok (.invokevirtual 283, 3) := by decide +kernel
theorem dX6_layCase_46 : decode cX6_layCase 46 = .ok (.return_, 1) := by decide +kernel
theorem dX6_price_0 : decode cX6_price 0 = .ok (.aload_n 0, 1) := by decide +kernel
theorem dX6_price_1 : decode cX6_price 1 = .ok (.iload_n 1, 1) := by decide +kernel
theorem dX6_price_2 : decode cX6_price 2 = .ok (.invokevirtual 169, 3) := by decide +kernel
theorem dX6_price_5 : decode cX6_price 5 = .ok (.ifCond .eq 20, 3) := by decide +kernel
theorem dX6_price_8 : decode cX6_price 8 = .ok (.aload_n 0, 1) := by decide +kernel
theorem dX6_price_9 : decode cX6_price 9 = .ok (.getfield 13, 3) := by decide +kernel
theorem dX6_price_12 : decode cX6_price 12 = .ok (.iload_n 1, 1) := by decide +kernel
theorem dX6_price_13 : decode cX6_price 13 = .ok (.baload, 1) := by decide +kernel
theorem dX6_price_14 : decode cX6_price 14 = .ok (.ifCond .ne 11, 3) := by decide +kernel
theorem dX6_price_17 : decode cX6_price 17 = .ok (.aload_n 0, 1) := by decide +kernel
theorem dX6_price_18 : decode cX6_price 18 = .ok (.iload_n 2, 1) := by decide +kernel
theorem dX6_price_19 : decode cX6_price 19 = .ok (.invokevirtual 201, 3) := by decide +kernel
theorem dX6_price_22 : decode cX6_price 22 = .ok (.ifCond .ne 5, 3) := by decide +kernel
theorem dX6_price_25 : decode cX6_price 25 = .ok (.iconst (-1), 1) := by decide +kernel
theorem dX6_price_26 : decode cX6_price 26 = .ok (.ireturn, 1) := by decide +kernel
theorem dX6_price_27 : decode cX6_price 27 = .ok (.aload_n 0, 1) := by decide +kernel
theorem dX6_price_28 : decode cX6_price 28 = .ok (.iload_n 1, 1) := by decide +kernel
theorem dX6_price_29 : decode cX6_price 29 = .ok (.iload_n 2, 1) := by decide +kernel
theorem dX6_price_30 : decode cX6_price 30 = .ok (.invokevirtual 286, 3) := by decide +kernel
theorem dX6_price_33 : decode cX6_price 33 = .ok (.aload_n 0, 1) := by decide +kernel
theorem dX6_price_34 : decode cX6_price 34 = .ok (.getfield 277, 3) := by decide +kernel
theorem dX6_price_37 : decode cX6_price 37 = .ok (.ireturn, 1) := by decide +kernel
theorem dX6_both_0 : decode cX6_both 0 = .ok (.aload_n 0, 1) := by decide +kernel
theorem dX6_both_1 : decode cX6_both 1 = .ok (.iload_n 1, 1) := by decide +kernel
theorem dX6_both_2 : decode cX6_both 2 = .ok (.invokevirtual 169, 3) := by decide +kernel
theorem dX6_both_5 : decode cX6_both 5 = .ok (.ifCond .eq 20, 3) := by decide +kernel
theorem dX6_both_8 : decode cX6_both 8 = .ok (.aload_n 0, 1) := by decide +kernel
theorem dX6_both_9 : decode cX6_both 9 = .ok (.getfield 13, 3) := by decide +kernel
theorem dX6_both_12 : decode cX6_both 12 = .ok (.iload_n 1, 1) := by decide +kernel
theorem dX6_both_13 : decode cX6_both 13 = .ok (.baload, 1) := by decide +kernel
theorem dX6_both_14 : decode cX6_both 14 = .ok (.ifCond .ne 11, 3) := by decide +kernel
theorem dX6_both_17 : decode cX6_both 17 = .ok (.aload_n 0, 1) := by decide +kernel
theorem dX6_both_18 : decode cX6_both 18 = .ok (.iload_n 2, 1) := by decide +kernel
theorem dX6_both_19 : decode cX6_both 19 = .ok (.invokevirtual 201, 3) := by decide +kernel
theorem dX6_both_22 : decode cX6_both 22 = .ok (.ifCond .ne 5, 3) := by decide +kernel
theorem dX6_both_25 : decode cX6_both 25 = .ok (.iconst (-1), 1) := by decide +kernel
theorem dX6_both_26 : decode cX6_both 26 = .ok (.ireturn, 1) := by decide +kernel
theorem dX6_both_27 : decode cX6_both 27 = .ok (.aload_n 0, 1) := by decide +kernel
theorem dX6_both_28 : decode cX6_both 28 = .ok (.iload_n 1, 1) := by decide +kernel
theorem dX6_both_29 : decode cX6_both 29 = .ok (.iload_n 2, 1) := by decide +kernel
theorem dX6_both_30 : decode cX6_both 30 = .ok (.invokevirtual 286, 3) := by decide +kernel
theorem dX6_both_33 : decode cX6_both 33 = .ok (.aload_n 0, 1) := by decide +kernel
theorem dX6_both_34 : decode cX6_both 34 = .ok (.getfield 280, 3) := by decide +kernel
theorem dX6_both_37 : decode cX6_both 37 = .ok (.ireturn, 1) := by decide +kernel
theorem dX6_shortest_0 : decode cX6_shortest 0 = .ok (.aload_n 0, 1) := by decide +kernel
theorem dX6_shortest_1 : decode cX6_shortest 1 = .ok (.iload_n 1, 1) := by decide +kernel
theorem dX6_shortest_2 : decode cX6_shortest 2 = .ok (.invokevirtual 201, 3) := by decide +kernel
theorem dX6_shortest_5 : decode cX6_shortest 5 = .ok (.ifCond .ne 5, 3) := by decide +kernel
theorem dX6_shortest_8 : decode cX6_shortest 8 = .ok (.iconst (-1), 1) := by decide +kernel
theorem dX6_shortest_9 : decode cX6_shortest 9 = .ok (.ireturn, 1) := by decide +kernel
theorem dX6_shortest_10 : decode cX6_shortest 10 = .ok (.aload_n 0, 1) := by decide +kernel
theorem dX6_shortest_11 : decode cX6_shortest 11 = .ok (.iconst 0, 1) := by decide +kernel
theorem dX6_shortest_12 : decode cX6_shortest 12 = .ok (.iload_n 1, 1) := by decide +kernel
theorem dX6_shortest_13 : decode cX6_shortest 13 = .ok (.invokevirtual 283, 3) := by decide +kernel
theorem dX6_shortest_16 : decode cX6_shortest 16 = .ok (.aload_n 0, 1) := by decide +kernel
theorem dX6_shortest_17 : decode cX6_shortest 17 = .ok (.getfield 277, 3) := by decide +kernel
theorem dX6_shortest_20 : decode cX6_shortest 20 = .ok (.ireturn, 1) := by decide +kernel
theorem dX6_fit_0 : decode cX6_fit 0 = .ok (.aload_n 0, 1) := by decide +kernel
theorem dX6_fit_1 : decode cX6_fit 1 = .ok (.iload_n 1, 1) := by decide +kernel
theorem dX6_fit_2 : decode cX6_fit 2 = .ok (.invokevirtual 201, 3) := by decide +kernel
theorem dX6_fit_5 : decode cX6_fit 5 = .ok (.ifCond .eq 15, 3) := by decide +kernel
theorem dX6_fit_8 : decode cX6_fit 8 = .ok (.iload_n 2, 1) := by decide +kernel
theorem dX6_fit_9 : decode cX6_fit 9 = .ok (.i2l, 1) := by decide +kernel
theorem dX6_fit_10 : decode cX6_fit 10 = .ok (.lconst 0, 1) := by decide +kernel
theorem dX6_fit_11 : decode cX6_fit 11 = .ok (.ldc2_w 181, 3) := by decide +kernel
theorem dX6_fit_14 : decode cX6_fit 14 = .ok (.invokestatic 159, 3) := by decide +kernel
theorem dX6_fit_17 : decode cX6_fit 17 = .ok (.ifCond .ne 5, 3) := by decide +kernel
theorem dX6_fit_20 : decode cX6_fit 20 = .ok (.iconst (-1), 1) := by decide +kernel
theorem dX6_fit_21 : decode cX6_fit 21 = .ok (.ireturn, 1) := by decide +kernel
theorem dX6_fit_22 : decode cX6_fit 22 = .ok (.aload_n 0, 1) := by decide +kernel
theorem dX6_fit_23 : decode cX6_fit 23 = .ok (.iconst 0, 1) := by decide +kernel
theorem dX6_fit_24 : decode cX6_fit 24 = .ok (.iload_n 1, 1) := by decide +kernel
theorem dX6_fit_25 : decode cX6_fit 25 = .ok (.invokevirtual 283, 3) := by decide +kernel
theorem dX6_fit_28 : decode cX6_fit 28 = .ok (.aload_n 0, 1) := by decide +kernel
theorem dX6_fit_29 : decode cX6_fit 29 = .ok (.getfield 277, 3) := by decide +kernel
theorem dX6_fit_32 : decode cX6_fit 32 = .ok (.istore_n 3, 1) := by decide +kernel
theorem dX6_fit_33 : decode cX6_fit 33 = .ok (.iconst 0, 1) := by decide +kernel
theorem dX6_fit_34 : decode cX6_fit 34 = .ok (.istore 4, 2) := by decide +kernel
theorem dX6_fit_36 : decode cX6_fit 36 = .ok (.iconst 0, 1) := by decide +kernel
theorem dX6_fit_37 : decode cX6_fit 37 = .ok (.istore 5, 2) := by decide +kernel
theorem dX6_fit_39 : decode cX6_fit 39 = .ok (.iconst 0, 1) := by decide +kernel
theorem dX6_fit_40 : decode cX6_fit 40 = .ok (.istore 6, 2) := by decide +kernel
theorem dX6_fit_42 : decode cX6_fit 42 = .ok (.bipush (-3), 2) := by decide +kernel
theorem dX6_fit_44 : decode cX6_fit 44 = .ok (.istore 7, 2) := by decide +kernel
theorem dX6_fit_46 : decode cX6_fit 46 = .ok (.iconst (-1), 1) := by decide +kernel
theorem dX6_fit_47 : decode cX6_fit 47 = .ok (.istore 8, 2) := by decide +kernel
theorem dX6_fit_49 : decode cX6_fit 49 = .ok (.iconst 0, 1) := by decide +kernel
theorem dX6_fit_50 : decode cX6_fit 50 = .ok (.istore 9, 2) := by decide +kernel
theorem dX6_fit_52 : decode cX6_fit 52 = .ok (.iload 9, 2) := by decide +kernel
theorem dX6_fit_54 : decode cX6_fit 54 = .ok (.aload_n 0, 1) := by decide +kernel
theorem dX6_fit_55 : decode cX6_fit 55 = .ok (.getfield 155, 3) := by decide +kernel
theorem dX6_fit_58 : decode cX6_fit 58 = .ok (.if_icmp .ge 104, 3) := by decide +kernel
theorem dX6_fit_61 : decode cX6_fit 61 = .ok (.aload_n 0, 1) := by decide +kernel
theorem dX6_fit_62 : decode cX6_fit 62 = .ok (.getfield 13, 3) := by decide +kernel
theorem dX6_fit_65 : decode cX6_fit 65 = .ok (.iload 9, 2) := by decide +kernel
theorem dX6_fit_67 : decode cX6_fit 67 = .ok (.baload, 1) := by decide +kernel
theorem dX6_fit_68 : decode cX6_fit 68 = .ok (.ifCond .ne 88, 3) := by decide +kernel
theorem dX6_fit_71 : decode cX6_fit 71 = .ok (.aload_n 0, 1) := by decide +kernel
theorem dX6_fit_72 : decode cX6_fit 72 = .ok (.iload 9, 2) := by decide +kernel
theorem dX6_fit_74 : decode cX6_fit 74 = .ok (.iload_n 1, 1) := by decide +kernel
theorem dX6_fit_75 : decode cX6_fit 75 = .ok (.invokevirtual 286, 3) := by decide +kernel
theorem dX6_fit_78 : decode cX6_fit 78 = .ok (.iload 4, 2) := by decide +kernel
theorem dX6_fit_80 : decode cX6_fit 80 = .ok (.aload_n 0, 1) := by decide +kernel
theorem dX6_fit_81 : decode cX6_fit 81 = .ok (.getfield 277, 3) := by decide +kernel
theorem dX6_fit_84 : decode cX6_fit 84 = .ok (.ifCond .ne 7, 3) := by decide +kernel
theorem dX6_fit_87 : decode cX6_fit 87 = .ok (.iconst 1, 1) := by decide +kernel
theorem dX6_fit_88 : decode cX6_fit 88 = .ok (.goto 4, 3) := by decide +kernel
theorem dX6_fit_91 : decode cX6_fit 91 = .ok (.iconst 0, 1) := by decide +kernel
theorem dX6_fit_92 : decode cX6_fit 92 = .ok (.iadd, 1) := by decide +kernel
theorem dX6_fit_93 : decode cX6_fit 93 = .ok (.istore 4, 2) := by decide +kernel
theorem dX6_fit_95 : decode cX6_fit 95 = .ok (.iload 5, 2) := by decide +kernel
theorem dX6_fit_97 : decode cX6_fit 97 = .ok (.aload_n 0, 1) := by decide +kernel
theorem dX6_fit_98 : decode cX6_fit 98 = .ok (.getfield 277, 3) := by decide +kernel
theorem dX6_fit_101 : decode cX6_fit 101 = .ok (.iadd, 1) := by decide +kernel
theorem dX6_fit_102 : decode cX6_fit 102 = .ok (.istore 5, 2) := by decide +kernel
theorem dX6_fit_104 : decode cX6_fit 104 = .ok (.iload 6, 2) := by decide +kernel
theorem dX6_fit_106 : decode cX6_fit 106 = .ok (.aload_n 0, 1) := by decide +kernel
theorem dX6_fit_107 : decode cX6_fit 107 = .ok (.getfield 7, 3) := by decide +kernel
theorem dX6_fit_110 : decode cX6_fit 110 = .ok (.iload 9, 2) := by decide +kernel
theorem dX6_fit_112 : decode cX6_fit 112 = .ok (.iaload, 1) := by decide +kernel
theorem dX6_fit_113 : decode cX6_fit 113 = .ok (.iload_n 3, 1) := by decide +kernel
theorem dX6_fit_114 : decode cX6_fit 114 = .ok (.iadd, 1) := by decide +kernel
theorem dX6_fit_115 : decode cX6_fit 115 = .ok (.iadd, 1) := by decide +kernel
theorem dX6_fit_116 : decode cX6_fit 116 = .ok (.istore 6, 2) := by decide +kernel
theorem dX6_fit_118 : decode cX6_fit 118 = .ok (.aload_n 0, 1) := by decide +kernel
theorem dX6_fit_119 : decode cX6_fit 119 = .ok (.getfield 277, 3) := by decide +kernel
theorem dX6_fit_122 : decode cX6_fit 122 = .ok (.iload 8, 2) := by decide +kernel
theorem dX6_fit_124 : decode cX6_fit 124 = .ok (.if_icmp .le 8, 3) := by decide +kernel
theorem dX6_fit_127 : decode cX6_fit 127 = .ok (.iload 9, 2) := by decide +kernel
theorem dX6_fit_129 : decode cX6_fit 129 = .ok (.goto 5, 3) := by decide +kernel
theorem dX6_fit_132 : decode cX6_fit 132 = .ok (.iload 7, 2) := by decide +kernel
theorem dX6_fit_134 : decode cX6_fit 134 = .ok (.istore 7, 2) := by decide +kernel
theorem dX6_fit_136 : decode cX6_fit 136 = .ok (.aload_n 0, 1) := by decide +kernel
theorem dX6_fit_137 : decode cX6_fit 137 = .ok (.getfield 277, 3) := by decide +kernel
theorem dX6_fit_140 : decode cX6_fit 140 = .ok (.iload 8, 2) := by decide +kernel
theorem dX6_fit_142 : decode cX6_fit 142 = .ok (.if_icmp .le 10, 3) := by decide +kernel
theorem dX6_fit_145 : decode cX6_fit 145 = .ok (.aload_n 0, 1) := by decide +kernel
theorem dX6_fit_146 : decode cX6_fit 146 = .ok (.getfield 277, 3) := by decide +kernel
theorem dX6_fit_149 : decode cX6_fit 149 = .ok (.goto 5, 3) := by decide +kernel
theorem dX6_fit_152 : decode cX6_fit 152 = .ok (.iload 8, 2) := by decide +kernel
theorem dX6_fit_154 : decode cX6_fit 154 = .ok (.istore 8, 2) := by decide +kernel
theorem dX6_fit_156 : decode cX6_fit 156 = .ok (.iinc 9 1, 3) := by decide +kernel
theorem dX6_fit_159 : decode cX6_fit 159 = .ok (.goto (-107), 3) := by decide +kernel
theorem dX6_fit_162 : decode cX6_fit 162 = .ok (.iload_n 2, 1) := by decide +kernel
theorem dX6_fit_163 : decode cX6_fit 163 = .ok (.ifCond .ne 8, 3) := by decide +kernel
theorem dX6_fit_166 : decode cX6_fit 166 = .ok (.iload 4, 2) := by decide +kernel
theorem dX6_fit_168 : decode cX6_fit 168 = .ok (.goto 25, 3) := by decide +kernel
theorem dX6_fit_171 : decode cX6_fit 171 = .ok (.iload_n 2, 1) := by decide +kernel
theorem dX6_fit_172 : decode cX6_fit 172 = .ok (.iconst 1, 1) := by decide +kernel
theorem dX6_fit_173 : decode cX6_fit 173 = .ok (.if_icmp .ne 8, 3) := by decide +kernel
theorem dX6_fit_176 : decode cX6_fit 176 = .ok (.iload 5, 2) := by decide +kernel
theorem dX6_fit_178 : decode cX6_fit 178 = .ok (.goto 15, 3) := by decide +kernel
theorem dX6_fit_181 : decode cX6_fit 181 = .ok (.iload_n 2, 1) := by decide +kernel
theorem dX6_fit_182 : decode cX6_fit 182 = .ok (.iconst 2, 1) := by decide +kernel
theorem dX6_fit_183 : decode cX6_fit 183 = .ok (.if_icmp .ne 8, 3) := by decide +kernel
theorem dX6_fit_186 : decode cX6_fit 186 = .ok (.iload 6, 2) := by decide +kernel
theorem dX6_fit_188 : decode cX6_fit 188 = .ok (.goto 5, 3) := by decide +kernel
theorem dX6_fit_191 : decode cX6_fit 191 = .ok (.iload 7, 2) := by decide +kernel
theorem dX6_fit_193 : decode cX6_fit 193 = .ok (.ireturn, 1) := by decide +kernel
theorem dX6_beginLog_0 : decode cX6_beginLog 0 = .ok (.aload_n 0, 1) := by decide +kernel
theorem dX6_beginLog_1 : decode cX6_beginLog 1 = .ok (.getfield 101, 3) := by decide +kernel
theorem dX6_beginLog_4 : decode cX6_beginLog 4 = .ok (.iload_n 1, 1) := by decide +kernel
theorem dX6_beginLog_5 : decode cX6_beginLog 5 = .ok (.aload_n 0, 1) := by decide +kernel
theorem dX6_beginLog_6 : decode cX6_beginLog 6 = .ok (.getfield 289, 3) := by decide +kernel
theorem dX6_beginLog_9 : decode cX6_beginLog 9 = .ok (.iastore, 1) := by decide +kernel
theorem dX6_beginLog_10 : decode cX6_beginLog 10 = .ok (.aload_n 0, 1) := by decide +kernel
theorem dX6_beginLog_11 : decode cX6_beginLog 11 = .ok (.getfield 104, 3) := by decide +kernel
theorem dX6_beginLog_14 : decode cX6_beginLog 14 = .ok (.iload_n 1, 1) := by decide +kernel
theorem dX6_beginLog_15 : decode cX6_beginLog 15 = .ok (.iconst 0, 1) := by decide +kernel
theorem dX6_beginLog_16 : decode cX6_beginLog 16 = .ok (.iastore, 1) := by decide +kernel
theorem dX6_beginLog_17 : decode cX6_beginLog 17 = .ok (.return_, 1) := by decide +kernel
theorem dX6_beginRow_0 : decode cX6_beginRow 0 = .ok (.aload_n 0, 1) := by decide +kernel
theorem dX6_beginRow_1 : decode cX6_beginRow 1 = .ok (.getfield 107, 3) := by decide +kernel
theorem dX6_beginRow_4 : decode cX6_beginRow 4 = .ok (.aload_n 0, 1) := by decide +kernel
theorem dX6_beginRow_5 : decode cX6_beginRow 5 = .ok (.getfield 289, 3) := by decide +kernel
theorem dX6_beginRow_8 : decode cX6_beginRow 8 = .ok (.aload_n 0, 1) := by decide +kernel
theorem dX6_beginRow_9 : decode cX6_beginRow 9 = .ok (.getfield 292, 3) := by decide +kernel
theorem dX6_beginRow_12 : decode cX6_beginRow 12 = .ok (.iastore, 1) := by decide +kernel
theorem dX6_beginRow_13 : decode cX6_beginRow 13 = .ok (.aload_n 0, 1) := by decide +kernel
theorem dX6_beginRow_14 : decode cX6_beginRow 14 = .ok (.getfield 110, 3) := by decide +kernel
theorem dX6_beginRow_17 : decode cX6_beginRow 17 = .ok (.aload_n 0, 1) := by decide +kernel
theorem dX6_beginRow_18 : decode cX6_beginRow 18 = .ok (.getfield 289, 3) := by decide +kernel
theorem dX6_beginRow_21 : decode cX6_beginRow 21 = .ok (.iconst 0, 1) := by decide +kernel
theorem dX6_beginRow_22 : decode cX6_beginRow 22 = .ok (.iastore, 1) := by decide +kernel
theorem dX6_beginRow_23 : decode cX6_beginRow 23 = .ok (.aload_n 0, 1) := by decide +kernel
theorem dX6_beginRow_24 : decode cX6_beginRow 24 = .ok (.dup, 1) := by decide +kernel
theorem dX6_beginRow_25 : decode cX6_beginRow 25 = .ok (.getfield 289, 3) := by decide +kernel
theorem dX6_beginRow_28 : decode cX6_beginRow 28 = .ok (.iconst 1, 1) := by decide +kernel
theorem dX6_beginRow_29 : decode cX6_beginRow 29 = .ok (.iadd, 1) := by decide +kernel
theorem dX6_beginRow_30 : decode cX6_beginRow 30 = .ok (.putfield 289, 3) := by decide +kernel
theorem dX6_beginRow_33 : decode cX6_beginRow 33 = .ok (.aload_n 0, 1) := by decide +kernel
theorem dX6_beginRow_34 : decode cX6_beginRow 34 = .ok (.getfield 104, 3) := by decide +kernel
theorem dX6_beginRow_37 : decode cX6_beginRow 37 = .ok (.iload_n 1, 1) := by decide +kernel
theorem dX6_beginRow_38 : decode cX6_beginRow 38 = .ok (.dup2, 1) := by decide +kernel
theorem dX6_beginRow_39 : decode cX6_beginRow 39 = .ok (.iaload, 1) := by decide +kernel
theorem dX6_beginRow_40 : decode cX6_beginRow 40 = .ok (.iconst 1, 1) := by decide +kernel
theorem dX6_beginRow_41 : decode cX6_beginRow 41 = .ok (.iadd, 1) := by decide +kernel
theorem dX6_beginRow_42 : decode cX6_beginRow 42 = .ok (.iastore, 1) := by decide +kernel
theorem dX6_beginRow_43 : decode cX6_beginRow 43 = .ok (.return_, 1) := by decide +kernel
theorem dX6_addName_0 : decode cX6_addName 0 = .ok (.aload_n 0, 1) := by decide +kernel
theorem dX6_addName_1 : decode cX6_addName 1 = .ok (.getfield 113, 3) := by decide +kernel
theorem dX6_addName_4 : decode cX6_addName 4 = .ok (.aload_n 0, 1) := by decide +kernel
theorem dX6_addName_5 : decode cX6_addName 5 = .ok (.getfield 292, 3) := by decide +kernel
theorem dX6_addName_8 : decode cX6_addName 8 = .ok (.iload_n 1, 1) := by decide +kernel
theorem dX6_addName_9 : decode cX6_addName 9 = .ok (.iastore, 1) := by decide +kernel
theorem dX6_addName_10 : decode cX6_addName 10 = .ok (.aload_n 0, 1) := by decide +kernel
theorem dX6_addName_11 : decode cX6_addName 11 = .ok (.dup, 1) := by decide +kernel
theorem dX6_addName_12 : decode cX6_addName 12 = .ok (.getfield 292, 3) := by decide +kernel
theorem dX6_addName_15 : decode cX6_addName 15 = .ok (.iconst 1, 1) := by decide +kernel
theorem dX6_addName_16 : decode cX6_addName 16 = .ok (.iadd, 1) := by decide +kernel
theorem dX6_addName_17 : decode cX6_addName 17 = .ok (.putfield 292, 3) := by decide +kernel
theorem dX6_addName_20 : decode cX6_addName 20 = .ok (.aload_n 0, 1) := by decide +kernel
theorem dX6_addName_21 : decode cX6_addName 21 = .ok (.getfield 110, 3) := by decide +kernel
theorem dX6_addName_24 : decode cX6_addName 24 = .ok (.aload_n 0, 1) := by decide +kernel
theorem dX6_addName_25 : decode cX6_addName 25 = .ok (.getfield 289, 3) := by decide +kernel
theorem dX6_addName_28 : decode cX6_addName 28 = .ok (.iconst 1, 1) := by decide +kernel
theorem dX6_addName_29 : decode cX6_addName 29 = .ok (.isub, 1) := by decide +kernel
theorem dX6_addName_30 : decode cX6_addName 30 = .ok (.dup2, 1) := by decide +kernel
theorem dX6_addName_31 : decode cX6_addName 31 = .ok (.iaload, 1) := by decide +kernel
theorem dX6_addName_32 : decode cX6_addName 32 = .ok (.iconst 1, 1) := by decide +kernel
theorem dX6_addName_33 : decode cX6_addName 33 = .ok (.iadd, 1) := by decide +kernel
theorem dX6_addName_34 : decode cX6_addName 34 = .ok (.iastore, 1) := by decide +kernel
theorem dX6_addName_35 : decode cX6_addName 35 = .ok (.return_, 1) := by decide +kernel
theorem dX6_look_0 : decode cX6_look 0 = .ok (.iconst 0, 1) := by decide +kernel
theorem dX6_look_1 : decode cX6_look 1 = .ok (.istore_n 2, 1) := by decide +kernel
theorem dX6_look_2 : decode cX6_look 2 = .ok (.iload_n 2, 1) := by decide +kernel
theorem dX6_look_3 : decode cX6_look 3 = .ok (.sipush 144, 3) := by decide +kernel
theorem dX6_look_6 : decode cX6_look 6 = .ok (.if_icmp .ge 16, 3) := by decide +kernel
theorem dX6_look_9 : decode cX6_look 9 = .ok (.aload_n 0, 1) := by decide +kernel
theorem dX6_look_10 : decode cX6_look 10 = .ok (.getfield 116, 3) := by decide +kernel
theorem dX6_look_13 : decode cX6_look 13 = .ok (.iload_n 2, 1) := by decide +kernel
theorem dX6_look_14 : decode cX6_look 14 = .ok (.iconst 0, 1) := by decide +kernel
theorem dX6_look_15 : decode cX6_look 15 = .ok (.bastore, 1) := by decide +kernel
theorem dX6_look_16 : decode cX6_look 16 = .ok (.iinc 2 1, 3) := by decide +kernel
theorem dX6_look_19 : decode cX6_look 19 = .ok (.goto (-17), 3) := by decide +kernel
theorem dX6_look_22 : decode cX6_look 22 = .ok (.iconst 0, 1) := by decide +kernel
theorem dX6_look_23 : decode cX6_look 23 = .ok (.istore_n 2, 1) := by decide +kernel
theorem dX6_look_24 : decode cX6_look 24 = .ok (.iload_n 2, 1) := by decide +kernel
theorem dX6_look_25 : decode cX6_look 25 = .ok (.bipush 12, 2) := by decide +kernel
theorem dX6_look_27 : decode cX6_look 27 = .ok (.if_icmp .ge 30, 3) := by decide +kernel
theorem dX6_look_30 : decode cX6_look 30 = .ok (.aload_n 0, 1) := by decide +kernel
theorem dX6_look_31 : decode cX6_look 31 = .ok (.getfield 119, 3) := by decide +kernel
theorem dX6_look_34 : decode cX6_look 34 = .ok (.iload_n 2, 1) := by decide +kernel
theorem dX6_look_35 : decode cX6_look 35 = .ok (.iconst 0, 1) := by decide +kernel
theorem dX6_look_36 : decode cX6_look 36 = .ok (.bastore, 1) := by decide +kernel
theorem dX6_look_37 : decode cX6_look 37 = .ok (.aload_n 0, 1) := by decide +kernel
theorem dX6_look_38 : decode cX6_look 38 = .ok (.getfield 122, 3) := by decide +kernel
theorem dX6_look_41 : decode cX6_look 41 = .ok (.iload_n 2, 1) := by decide +kernel
theorem dX6_look_42 : decode cX6_look 42 = .ok (.iconst 0, 1) := by decide +kernel
theorem dX6_look_43 : decode cX6_look 43 = .ok (.bastore, 1) := by decide +kernel
theorem dX6_look_44 : decode cX6_look 44 = .ok (.aload_n 0, 1) := by decide +kernel
theorem dX6_look_45 : decode cX6_look 45 = .ok (.getfield 125, 3) := by decide +kernel
theorem dX6_look_48 : decode cX6_look 48 = .ok (.iload_n 2, 1) := by decide +kernel
theorem dX6_look_49 : decode cX6_look 49 = .ok (.iconst 0, 1) := by decide +kernel
theorem dX6_look_50 : decode cX6_look 50 = .ok (.bastore, 1) := by decide +kernel
theorem dX6_look_51 : decode cX6_look 51 = .ok (.iinc 2 1, 3) := by decide +kernel
theorem dX6_look_54 : decode cX6_look 54 = .ok (.goto (-30), 3) := by decide +kernel
theorem dX6_look_57 : decode cX6_look 57 = .ok (.aload_n 0, 1) := by decide +kernel
theorem dX6_look_58 : decode cX6_look 58 = .ok (.getfield 101, 3) := by decide +kernel
theorem dX6_look_61 : decode cX6_look 61 = .ok (.iload_n 1, 1) := by decide +kernel
theorem dX6_look_62 : decode cX6_look 62 = .ok (.iaload, 1) := by decide +kernel
theorem dX6_look_63 : decode cX6_look 63 = .ok (.istore_n 2, 1) := by decide +kernel
theorem dX6_look_64 : decode cX6_look 64 = .ok (.iload_n 2, 1) := by decide +kernel
theorem dX6_look_65 : decode cX6_look 65 = .ok (.aload_n 0, 1) := by decide +kernel
theorem dX6_look_66 : decode cX6_look 66 = .ok (.getfield 101, 3) := by decide +kernel
theorem dX6_look_69 : decode cX6_look 69 = .ok (.iload_n 1, 1) := by decide +kernel
theorem dX6_look_70 : decode cX6_look 70 = .ok (.iaload, 1) := by decide +kernel
theorem dX6_look_71 : decode cX6_look 71 = .ok (.aload_n 0, 1) := by decide +kernel
theorem dX6_look_72 : decode cX6_look 72 = .ok (.getfield 104, 3) := by decide +kernel
theorem dX6_look_75 : decode cX6_look 75 = .ok (.iload_n 1, 1) := by decide +kernel
theorem dX6_look_76 : decode cX6_look 76 = .ok (.iaload, 1) := by decide +kernel
theorem dX6_look_77 : decode cX6_look 77 = .ok (.iadd, 1) := by decide +kernel
theorem dX6_look_78 : decode cX6_look 78 = .ok (.if_icmp .ge 141, 3) := by decide +kernel
theorem dX6_look_81 : decode cX6_look 81 = .ok (.iconst 0, 1) := by decide +kernel
theorem dX6_look_82 : decode cX6_look 82 = .ok (.istore_n 3, 1) := by decide +kernel
theorem dX6_look_83 : decode cX6_look 83 = .ok (.iload_n 3, 1) := by decide +kernel
theorem dX6_look_84 : decode cX6_look 84 = .ok (.aload_n 0, 1) := by decide +kernel
theorem dX6_look_85 : decode cX6_look 85 = .ok (.getfield 110, 3) := by decide +kernel
theorem dX6_look_88 : decode cX6_look 88 = .ok (.iload_n 2, 1) := by decide +kernel
theorem dX6_look_89 : decode cX6_look 89 = .ok (.iaload, 1) := by decide +kernel
theorem dX6_look_90 : decode cX6_look 90 = .ok (.if_icmp .ge 123, 3) := by decide +kernel
theorem dX6_look_93 : decode cX6_look 93 = .ok (.aload_n 0, 1) := by decide +kernel
theorem dX6_look_94 : decode cX6_look 94 = .ok (.getfield 113, 3) := by decide +kernel
theorem dX6_look_97 : decode cX6_look 97 = .ok (.aload_n 0, 1) := by decide +kernel
theorem dX6_look_98 : decode cX6_look 98 = .ok (.getfield 107, 3) := by decide +kernel
theorem dX6_look_101 : decode cX6_look 101 = .ok (.iload_n 2, 1) := by decide +kernel
theorem dX6_look_102 : decode cX6_look 102 = .ok (.iaload, 1) := by decide +kernel
theorem dX6_look_103 : decode cX6_look 103 = .ok (.iload_n 3, 1) := by decide +kernel
theorem dX6_look_104 : decode cX6_look 104 = .ok (.iadd, 1) := by decide +kernel
theorem dX6_look_105 : decode cX6_look 105 = .ok (.iaload, 1) := by decide +kernel
theorem dX6_look_106 : decode cX6_look 106 = .ok (.istore 4, 2) := by decide +kernel
theorem dX6_look_108 : decode cX6_look 108 = .ok (.aload_n 0, 1) := by decide +kernel
theorem dX6_look_109 : decode cX6_look 109 = .ok (.getfield 119, 3) := by decide +kernel
theorem dX6_look_112 : decode cX6_look 112 = .ok (.iload 4, 2) := by decide +kernel
theorem dX6_look_114 : decode cX6_look 114 = .ok (.iconst 1, 1) := by decide +kernel
theorem dX6_look_115 : decode cX6_look 115 = .ok (.bastore, 1) := by decide +kernel
theorem dX6_look_116 : decode cX6_look 116 = .ok (.aload_n 0, 1) := by decide +kernel
theorem dX6_look_117 : decode cX6_look 117 = .ok (.getfield 122, 3) := by decide +kernel
theorem dX6_look_120 : decode cX6_look 120 = .ok (.iload 4, 2) := by decide +kernel
theorem dX6_look_122 : decode cX6_look 122 = .ok (.aload_n 0, 1) := by decide +kernel
theorem dX6_look_123 : decode cX6_look 123 = .ok (.getfield 122, 3) := by decide +kernel
theorem dX6_look_126 : decode cX6_look 126 = .ok (.iload 4, 2) := by decide +kernel
theorem dX6_look_128 : decode cX6_look 128 = .ok (.baload, 1) := by decide +kernel
theorem dX6_look_129 : decode cX6_look 129 = .ok (.ifCond .ne 7, 3) := by decide +kernel
theorem dX6_look_132 : decode cX6_look 132 = .ok (.iload_n 3, 1) := by decide +kernel
theorem dX6_look_133 : decode cX6_look 133 = .ok (.ifCond .ne 7, 3) := by decide +kernel
theorem dX6_look_136 : decode cX6_look 136 = .ok (.iconst 1, 1) := by decide +kernel
theorem dX6_look_137 : decode cX6_look 137 = .ok (.goto 4, 3) := by decide +kernel
theorem dX6_look_140 : decode cX6_look 140 = .ok (.iconst 0, 1) := by decide +kernel
theorem dX6_look_141 : decode cX6_look 141 = .ok (.bastore, 1) := by decide +kernel
theorem dX6_look_142 : decode cX6_look 142 = .ok (.aload_n 0, 1) := by decide +kernel
theorem dX6_look_143 : decode cX6_look 143 = .ok (.getfield 125, 3) := by decide +kernel
theorem dX6_look_146 : decode cX6_look 146 = .ok (.iload 4, 2) := by decide +kernel
theorem dX6_look_148 : decode cX6_look 148 = .ok (.aload_n 0, 1) := by decide +kernel
theorem dX6_look_149 : decode cX6_look 149 = .ok (.getfield 125, 3) := by decide +kernel
theorem dX6_look_152 : decode cX6_look 152 = .ok (.iload 4, 2) := by decide +kernel
theorem dX6_look_154 : decode cX6_look 154 = .ok (.baload, 1) := by decide +kernel
theorem dX6_look_155 : decode cX6_look 155 = .ok (.ifCond .ne 15, 3) := by decide +kernel
theorem dX6_look_158 : decode cX6_look 158 = .ok (.iload_n 3, 1) := by decide +kernel
theorem dX6_look_159 : decode cX6_look 159 = .ok (.aload_n 0, 1) := by decide +kernel
theorem dX6_look_160 : decode cX6_look 160 = .ok (.getfield 110, 3) := by decide +kernel
theorem dX6_look_163 : decode cX6_look 163 = .ok (.iload_n 2, 1) := by decide +kernel
theorem dX6_look_164 : decode cX6_look 164 = .ok (.iaload, 1) := by decide +kernel
theorem dX6_look_165 : decode cX6_look 165 = .ok (.iconst 1, 1) := by decide +kernel
theorem dX6_look_166 : decode cX6_look 166 = .ok (.isub, 1) := by decide +kernel
theorem dX6_look_167 : decode cX6_look 167 = .ok (.if_icmp .ne 7, 3) := by decide +kernel
theorem dX6_look_170 : decode cX6_look 170 = .ok (.iconst 1, 1) := by decide +kernel
theorem dX6_look_171 : decode cX6_look 171 = .ok (.goto 4, 3) := by decide +kernel
theorem dX6_look_174 : decode cX6_look 174 = .ok (.iconst 0, 1) := by decide +kernel
theorem dX6_look_175 : decode cX6_look 175 = .ok (.bastore, 1) := by decide +kernel
theorem dX6_look_176 : decode cX6_look 176 = .ok (.iload_n 3, 1) := by decide +kernel
theorem dX6_look_177 : decode cX6_look 177 = .ok (.ifCond .le 30, 3) := by decide +kernel
theorem dX6_look_180 : decode cX6_look 180 = .ok (.aload_n 0, 1) := by decide +kernel
theorem dX6_look_181 : decode cX6_look 181 = .ok (.getfield 116, 3) := by decide +kernel
theorem dX6_look_184 : decode cX6_look 184 = .ok (.bipush 12, 2) := by decide +kernel
theorem dX6_look_186 : decode cX6_look 186 = .ok (.iload 4, 2) := by decide +kernel
theorem dX6_look_188 : decode cX6_look 188 = .ok (.imul, 1) := by decide +kernel
theorem dX6_look_189 : decode cX6_look 189 = .ok (.aload_n 0, 1) := by decide +kernel
theorem dX6_look_190 : decode cX6_look 190 = .ok (.getfield 113, 3) := by decide +kernel
theorem dX6_look_193 : decode cX6_look 193 = .ok (.aload_n 0, 1) := by decide +kernel
theorem dX6_look_194 : decode cX6_look 194 = .ok (.getfield 107, 3) := by decide +kernel
theorem dX6_look_197 : decode cX6_look 197 = .ok (.iload_n 2, 1) := by decide +kernel
theorem dX6_look_198 : decode cX6_look 198 = .ok (.iaload, 1) := by decide +kernel
theorem dX6_look_199 : decode cX6_look 199 = .ok (.iload_n 3, 1) := by decide +kernel
theorem dX6_look_200 : decode cX6_look 200 = .ok (.iadd, 1) := by decide +kernel
theorem dX6_look_201 : decode cX6_look 201 = .ok (.iconst 1, 1) := by decide +kernel
theorem dX6_look_202 : decode cX6_look 202 = .ok (.isub, 1) := by decide +kernel
theorem dX6_look_203 : decode cX6_look 203 = .ok (.iaload, 1) := by decide +kernel
theorem dX6_look_204 : decode cX6_look 204 = .ok (.iadd, 1) := by decide +kernel
theorem dX6_look_205 : decode cX6_look 205 = .ok (.iconst 1, 1) := by decide +kernel
theorem dX6_look_206 : decode cX6_look 206 = .ok (.bastore, 1) := by decide +kernel
theorem dX6_look_207 : decode cX6_look 207 = .ok (.iinc 3 1, 3) := by decide +kernel
theorem dX6_look_210 : decode cX6_look 210 = .ok (.goto (-127), 3) := by decide +kernel
theorem dX6_look_213 : decode cX6_look 213 = .ok (.iinc 2 1, 3) := by decide +kernel
theorem dX6_look_216 : decode cX6_look 216 = .ok (.goto (-152), 3) := by decide +kernel
theorem dX6_look_219 : decode cX6_look 219 = .ok (.return_, 1) := by decide +kernel
theorem dX6_gatherParts_0 : decode cX6_gatherParts 0 = .ok (.aload_n 0, 1) := by decide +kernel
theorem dX6_gatherParts_1 : decode cX6_gatherParts 1 = .ok (.iconst 0, 1) := by decide +kernel
theorem dX6_gatherParts_2 : decode cX6_gatherParts 2 = .ok (.putfield 295, 3) := by decide +kernel
theorem dX6_gatherParts_5 : decode cX6_gatherParts 5 = .ok (.iconst 0, 1) := by decide +kernel
theorem dX6_gatherParts_6 : decode cX6_gatherParts 6 = .ok (.istore_n 2, 1) := by decide +kernel
theorem dX6_gatherParts_7 : decode cX6_gatherParts 7 = .ok (.iload_n 2, 1) := by decide +kernel
theorem dX6_gatherParts_8 : decode cX6_gatherParts 8 = .ok (.bipush 12, 2) := by decide +kernel
theorem dX6_gatherParts_10 : decode cX6_gatherParts 10 = .ok (.if_icmp .ge 17, 3) := by decide +kernel
theorem dX6_gatherParts_13 : decode cX6_gatherParts 13 = .ok (.aload_n 0, 1) := by decide +kernel
theorem dX6_gatherParts_14 : decode cX6_gatherParts 14 = .ok (.getfield 128, 3) := by decide +kernel
theorem dX6_gatherParts_17 : decode cX6_gatherParts 17 = .ok (.iload_n 2, 1) := by decide +kernel
theorem dX6_gatherParts_18 : decode cX6_gatherParts 18 = .ok (.bipush (-3), 2) := by decide +kernel
theorem dX6_gatherParts_20 : decode cX6_gatherParts 20 = .ok (.iastore, 1) := by decide +kernel
theorem dX6_gatherParts_21 : decode cX6_gatherParts 21 = .ok (.iinc 2 1, 3) := by decide +kernel
theorem dX6_gatherParts_24 : decode cX6_gatherParts 24 = .ok (.goto (-17), 3) := by decide +kernel
theorem dX6_gatherParts_27 : decode cX6_gatherParts 27 = .ok (.iconst 0, 1) := by decide +kernel
theorem dX6_gatherParts_28 : decode cX6_gatherParts 28 = .ok (.istore_n 2, 1) := by decide +kernel
theorem dX6_gatherParts_29 : decode cX6_gatherParts 29 = .ok (.iload_n 2, 1) := by decide +kernel
theorem dX6_gatherParts_30 : decode cX6_gatherParts 30 = .ok (.bipush 12, 2) := by decide +kernel
theorem dX6_gatherParts_32 : decode cX6_gatherParts 32 = .ok (.if_icmp .ge 148, 3) := by decide +kernel
theorem dX6_gatherParts_35 : decode cX6_gatherParts 35 = .ok (.aload_n 1, 1) := by decide +kernel
theorem dX6_gatherParts_36 : decode cX6_gatherParts 36 = .ok (.iload_n 2, 1) := by decide +kernel
theorem dX6_gatherParts_37 : decode cX6_gatherParts 37 = .ok (.baload, 1) := by decide +kernel
theorem dX6_gatherParts_38 : decode cX6_gatherParts 38 = .ok (.ifCond .eq 136, 3) := by decide +kernel
theorem dX6_gatherParts_41 : decode cX6_gatherParts 41 = .ok (.aload_n 0, 1) := by decide +kernel
theorem dX6_gatherParts_42 : decode cX6_gatherParts 42 = .ok (.getfield 128, 3) := by decide +kernel
theorem dX6_gatherParts_45 : decode cX6_gatherParts 45 = .ok (.iload_n 2, 1) := by decide +kernel
theorem dX6_gatherParts_46 : decode cX6_gatherParts 46 = .ok (.iaload, 1) := by decide +kernel
theorem dX6_gatherParts_47 : decode cX6_gatherParts 47 = .ok (.bipush (-3), 2) := by decide +kernel
theorem dX6_gatherParts_49 : decode cX6_gatherParts 49 = .ok (.if_icmp .ne 125, 3) := by decide +kernel
theorem dX6_gatherParts_52 : decode cX6_gatherParts 52 = .ok (.aload_n 0, 1) := by decide +kernel
theorem dX6_gatherParts_53 : decode cX6_gatherParts 53 = .ok (.getfield 128, 3) := by decide +kernel
theorem dX6_gatherParts_56 : decode cX6_gatherParts 56 = .ok (.iload_n 2, 1) := by decide +kernel
theorem dX6_gatherParts_57 : decode cX6_gatherParts 57 = .ok (.iload_n 2, 1) := by decide +kernel
theorem dX6_gatherParts_58 : decode cX6_gatherParts 58 = .ok (.iastore, 1) := by decide +kernel
theorem dX6_gatherParts_59 : decode cX6_gatherParts 59 = .ok (.iconst 1, 1) := by decide +kernel
theorem dX6_gatherParts_60 : decode cX6_gatherParts 60 = .ok (.istore_n 3, 1) := by decide +kernel
theorem dX6_gatherParts_61 : decode cX6_gatherParts 61 = .ok (.iload_n 3, 1) := by decide +kernel
theorem dX6_gatherParts_62 : decode cX6_gatherParts 62 = .ok (.ifCond .eq 112, 3) := by decide +kernel
theorem dX6_gatherParts_65 : decode cX6_gatherParts 65 = .ok (.iconst 0, 1) := by decide +kernel
theorem dX6_gatherParts_66 : decode cX6_gatherParts 66 = .ok (.istore_n 3, 1) := by decide +kernel
theorem dX6_gatherParts_67 : decode cX6_gatherParts 67 = .ok (.iconst 0, 1) := by decide +kernel
theorem dX6_gatherParts_68 : decode cX6_gatherParts 68 = .ok (.istore 4, 2) := by decide +kernel
theorem dX6_gatherParts_70 : decode cX6_gatherParts 70 = .ok (.iload 4, 2) := by decide +kernel
theorem dX6_gatherParts_72 : decode cX6_gatherParts 72 = .ok (.bipush 12, 2) := by decide +kernel
theorem dX6_gatherParts_74 : decode cX6_gatherParts 74 = .ok (.if_icmp .ge 97, 3) := by decide +kernel
theorem dX6_gatherParts_77 : decode cX6_gatherParts 77 = .ok (.iconst 0, 1) := by decide +kernel
theorem dX6_gatherParts_78 : decode cX6_gatherParts 78 = .ok (.istore 5, 2) := by decide +kernel
theorem dX6_gatherParts_80 : decode cX6_gatherParts 80 = .ok (.iload 5, 2) := by decide +kernel
theorem dX6_gatherParts_82 : decode cX6_gatherParts 82 = .ok (.bipush 12, 2) := by decide +kernel
theorem dX6_gatherParts_84 : decode cX6_gatherParts 84 = .ok (.if_icmp .ge 81, 3) := by decide +kernel
theorem dX6_gatherParts_87 : decode cX6_gatherParts 87 = .ok (.aload_n 0, 1) := by decide +kernel
theorem dX6_gatherParts_88 : decode cX6_gatherParts 88 = .ok (.getfield 128, 3) := by decide +kernel
theorem dX6_gatherParts_91 : decode cX6_gatherParts 91 = .ok (.iload 4, 2) := by decide +kernel
theorem dX6_gatherParts_93 : decode cX6_gatherParts 93 = .ok (.iaload, 1) := by decide +kernel
theorem dX6_gatherParts_94 : decode cX6_gatherParts 94 = .ok (.iload_n 2, 1) := by decide +kernel
theorem dX6_gatherParts_95 : decode cX6_gatherParts 95 = .ok (.if_icmp .ne 64, 3) := by decide +kernel
theorem dX6_gatherParts_98 : decode cX6_gatherParts 98 = .ok (.aload_n 1, 1) := by decide +kernel
theorem dX6_gatherParts_99 : decode cX6_gatherParts 99 = .ok (.iload 5, 2) := by decide +kernel
theorem dX6_gatherParts_101 : decode cX6_gatherParts 101 = .ok (.baload, 1) := by decide +kernel
theorem dX6_gatherParts_102 : decode cX6_gatherParts 102 = .ok (.ifCond .eq 57, 3) := by decide +kernel
theorem dX6_gatherParts_105 : decode cX6_gatherParts 105 = .ok (.aload_n 0, 1) := by decide +kernel
theorem dX6_gatherParts_106 : decode cX6_gatherParts 106 = .ok (.getfield 128, 3) := by decide +kernel
theorem dX6_gatherParts_109 : decode cX6_gatherParts 109 = .ok (.iload 5, 2) := by decide +kernel
theorem dX6_gatherParts_111 : decode cX6_gatherParts 111 = .ok (.iaload, 1) := by decide +kernel
theorem dX6_gatherParts_112 : decode cX6_gatherParts 112 = .ok (.bipush (-3), 2) := by decide +kernel
theorem dX6_gatherParts_114 : decode cX6_gatherParts 114 = .ok (.if_icmp .ne 45, 3) := by decide +kernel
theorem dX6_gatherParts_117 : decode cX6_gatherParts 117 = .ok (.aload_n 0, 1) := by decide +kernel
theorem dX6_gatherParts_118 : decode cX6_gatherParts 118 = .ok (.getfield 134, 3) := by decide +kernel
theorem dX6_gatherParts_121 : decode cX6_gatherParts 121 = .ok (.bipush 12, 2) := by decide +kernel
theorem dX6_gatherParts_123 : decode cX6_gatherParts 123 = .ok (.iload 4, 2) := by decide +kernel
theorem dX6_gatherParts_125 : decode cX6_gatherParts 125 = .ok (.imul, 1) := by decide +kernel
theorem dX6_gatherParts_126 : decode cX6_gatherParts 126 = .ok (.iload 5, 2) := by decide +kernel
theorem dX6_gatherParts_128 : decode cX6_gatherParts 128 = .ok (.iadd, 1) := by decide +kernel
theorem dX6_gatherParts_129 : decode cX6_gatherParts 129 = .ok (.baload, 1) := by decide +kernel
theorem dX6_gatherParts_130 : decode cX6_gatherParts 130 = .ok (.ifCond .ne 19, 3) := by decide +kernel
theorem dX6_gatherParts_133 : decode cX6_gatherParts 133 = .ok (.aload_n 0, 1) := by decide +kernel
theorem dX6_gatherParts_134 : decode cX6_gatherParts 134 = .ok (.getfield 134, 3) := by decide +kernel
theorem dX6_gatherParts_137 : decode cX6_gatherParts 137 = .ok (.bipush 12, 2) := by decide +kernel
theorem dX6_gatherParts_139 : decode cX6_gatherParts 139 = .ok (.iload 5, 2) := by decide +kernel
theorem dX6_gatherParts_141 : decode cX6_gatherParts 141 = .ok (.imul, 1) := by decide +kernel
theorem dX6_gatherParts_142 : decode cX6_gatherParts 142 = .ok (.iload 4, 2) := by decide +kernel
theorem dX6_gatherParts_144 : decode cX6_gatherParts 144 = .ok (.iadd, 1) := by decide +kernel
theorem dX6_gatherParts_145 : decode cX6_gatherParts 145 = .ok (.baload, 1) := by decide +kernel
theorem dX6_gatherParts_146 : decode cX6_gatherParts 146 = .ok (.ifCond .eq 13, 3) := by decide +kernel
theorem dX6_gatherParts_149 : decode cX6_gatherParts 149 = .ok (.aload_n 0, 1) := by decide +kernel
theorem dX6_gatherParts_150 : decode cX6_gatherParts 150 = .ok (.getfield 128, 3) := by decide +kernel
theorem dX6_gatherParts_153 : decode cX6_gatherParts 153 = .ok (.iload 5, 2) := by decide +kernel
theorem dX6_gatherParts_155 : decode cX6_gatherParts 155 = .ok (.iload_n 2, 1) := by decide +kernel
theorem dX6_gatherParts_156 : decode cX6_gatherParts 156 = .ok (.iastore, 1) := by decide +kernel
theorem dX6_gatherParts_157 : decode cX6_gatherParts 157 = .ok (.iconst 1, 1) := by decide +kernel
theorem dX6_gatherParts_158 : decode cX6_gatherParts 158 = .ok (.istore_n 3, 1) := by decide +kernel
theorem dX6_gatherParts_159 : decode cX6_gatherParts 159 = .ok (.iinc 5 1, 3) := by decide +kernel
theorem dX6_gatherParts_162 : decode cX6_gatherParts 162 = .ok (.goto (-82), 3) := by decide +kernel
theorem dX6_gatherParts_165 : decode cX6_gatherParts 165 = .ok (.iinc 4 1, 3) := by decide +kernel
theorem dX6_gatherParts_168 : decode cX6_gatherParts 168 = .ok (.goto (-98), 3) := by decide +kernel
theorem dX6_gatherParts_171 : decode cX6_gatherParts 171 = .ok (.goto (-110), 3) := by decide +kernel
theorem dX6_gatherParts_174 : decode cX6_gatherParts 174 = .ok (.iinc 2 1, 3) := by decide +kernel
theorem dX6_gatherParts_177 : decode cX6_gatherParts 177 = .ok (.goto (-148), 3) := by decide +kernel
theorem dX6_gatherParts_180 : decode cX6_gatherParts 180 = .ok (.aload_n 0, 1) := by decide +kernel
theorem dX6_gatherParts_181 : decode cX6_gatherParts 181 = .ok (.invokevirtual 298, 3) := by decide +kernel
theorem dX6_gatherParts_184 : decode cX6_gatherParts 184 = .ok (.return_, 1) := by decide +kernel
theorem dX6_listParts_0 : decode cX6_listParts 0 = .ok (.aload_n 0, 1) := by decide +kernel
theorem dX6_listParts_1 : decode cX6_listParts 1 = .ok (.iconst 0, 1) := by decide +kernel
theorem dX6_listParts_2 : decode cX6_listParts 2 = .ok (.putfield 295, 3) := by decide +kernel
theorem dX6_listParts_5 : decode cX6_listParts 5 = .ok (.iconst 0, 1) := by decide +kernel
theorem dX6_listParts_6 : decode cX6_listParts 6 = .ok (.istore_n 1, 1) := by decide +kernel
theorem dX6_listParts_7 : decode cX6_listParts 7 = .ok (.iload_n 1, 1) := by decide +kernel
theorem dX6_listParts_8 : decode cX6_listParts 8 = .ok (.bipush 12, 2) := by decide +kernel
theorem dX6_listParts_10 : decode cX6_listParts 10 = .ok (.if_icmp .ge 39, 3) := by decide +kernel
theorem dX6_listParts_13 : decode cX6_listParts 13 = .ok (.aload_n 0, 1) := by decide +kernel
theorem dX6_listParts_14 : decode cX6_listParts 14 = .ok (.getfield 128, 3) := by decide +kernel
theorem dX6_listParts_17 : decode cX6_listParts 17 = .ok (.iload_n 1, 1) := by decide +kernel
theorem dX6_listParts_18 : decode cX6_listParts 18 = .ok (.iaload, 1) := by decide +kernel
theorem dX6_listParts_19 : decode cX6_listParts 19 = .ok (.iload_n 1, 1) := by decide +kernel
theorem dX6_listParts_20 : decode cX6_listParts 20 = .ok (.if_icmp .ne 23, 3) := by decide +kernel
theorem dX6_listParts_23 : decode cX6_listParts 23 = .ok (.aload_n 0, 1) := by decide +kernel
theorem dX6_listParts_24 : decode cX6_listParts 24 = .ok (.getfield 131, 3) := by decide +kernel
theorem dX6_listParts_27 : decode cX6_listParts 27 = .ok (.aload_n 0, 1) := by decide +kernel
theorem dX6_listParts_28 : decode cX6_listParts 28 = .ok (.getfield 295, 3) := by decide +kernel
theorem dX6_listParts_31 : decode cX6_listParts 31 = .ok (.iload_n 1, 1) := by decide +kernel
theorem dX6_listParts_32 : decode cX6_listParts 32 = .ok (.iastore, 1) := by decide +kernel
theorem dX6_listParts_33 : decode cX6_listParts 33 = .ok (.aload_n 0, 1) := by decide +kernel
theorem dX6_listParts_34 : decode cX6_listParts 34 = .ok (.dup, 1) := by decide +kernel
theorem dX6_listParts_35 : decode cX6_listParts 35 = .ok (.getfield 295, 3) := by decide +kernel
theorem dX6_listParts_38 : decode cX6_listParts 38 = .ok (.iconst 1, 1) := by decide +kernel
theorem dX6_listParts_39 : decode cX6_listParts 39 = .ok (.iadd, 1) := by decide +kernel
theorem dX6_listParts_40 : decode cX6_listParts 40 = .ok (.putfield 295, 3) := by decide +kernel
theorem dX6_listParts_43 : decode cX6_listParts 43 = .ok (.iinc 1 1, 3) := by decide +kernel
theorem dX6_listParts_46 : decode cX6_listParts 46 = .ok (.goto (-39), 3) := by decide +kernel
theorem dX6_listParts_49 : decode cX6_listParts 49 = .ok (.return_, 1) := by decide +kernel
theorem dX6_layReach_0 : decode cX6_layReach 0 = .ok (.iconst 0, 1) := by decide +kernel
theorem dX6_layReach_1 : decode cX6_layReach 1 = .ok (.istore_n 1, 1) := by decide +kernel
theorem dX6_layReach_2 : decode cX6_layReach 2 = .ok (.iload_n 1, 1) := by decide +kernel
theorem dX6_layReach_3 : decode cX6_layReach 3 = .ok (.bipush 12, 2) := by decide +kernel
theorem dX6_layReach_5 : decode cX6_layReach 5 = .ok (.if_icmp .ge 45, 3) := by decide +kernel
theorem dX6_layReach_8 : decode cX6_layReach 8 = .ok (.iconst 0, 1) := by decide +kernel
theorem dX6_layReach_9 : decode cX6_layReach 9 = .ok (.istore_n 2, 1) := by decide +kernel
theorem dX6_layReach_10 : decode cX6_layReach 10 = .ok (.iload_n 2, 1) := by decide +kernel
theorem dX6_layReach_11 : decode cX6_layReach 11 = .ok (.bipush 12, 2) := by decide +kernel
theorem dX6_layReach_13 : decode cX6_layReach 13 = .ok (.if_icmp .ge 31, 3) := by decide +kernel
theorem dX6_layReach_16 : decode cX6_layReach 16 = .ok (.aload_n 0, 1) := by decide +kernel
theorem dX6_layReach_17 : decode cX6_layReach 17 = .ok (.getfield 137, 3) := by decide +kernel
theorem dX6_layReach_20 : decode cX6_layReach 20 = .ok (.bipush 12, 2) := by decide +kernel
theorem dX6_layReach_22 : decode cX6_layReach 22 = .ok (.iload_n 1, 1) := by decide +kernel
theorem dX6_layReach_23 : decode cX6_layReach 23 = .ok (.imul, 1) := by decide +kernel
theorem dX6_layReach_24 : decode cX6_layReach 24 = .ok (.iload_n 2, 1) := by decide +kernel
theorem dX6_layReach_25 : decode cX6_layReach 25 = .ok (.iadd, 1) := by decide +kernel
theorem dX6_layReach_26 : decode cX6_layReach 26 = .ok (.aload_n 0, 1) := by decide +kernel
theorem dX6_layReach_27 : decode cX6_layReach 27 = .ok (.getfield 116, 3) := by decide +kernel
theorem dX6_layReach_30 : decode cX6_layReach 30 = .ok (.bipush 12, 2) := by decide +kernel
theorem dX6_layReach_32 : decode cX6_layReach 32 = .ok (.iload_n 2, 1) := by decide +kernel
theorem dX6_layReach_33 : decode cX6_layReach 33 = .ok (.imul, 1) := by decide +kernel
theorem dX6_layReach_34 : decode cX6_layReach 34 = .ok (.iload_n 1, 1) := by decide +kernel
theorem dX6_layReach_35 : decode cX6_layReach 35 = .ok (.iadd, 1) := by decide +kernel
theorem dX6_layReach_36 : decode cX6_layReach 36 = .ok (.baload, 1) := by decide +kernel
theorem dX6_layReach_37 : decode cX6_layReach 37 = .ok (.bastore, 1) := by decide +kernel
theorem dX6_layReach_38 : decode cX6_layReach 38 = .ok (.iinc 2 1, 3) := by decide +kernel
theorem dX6_layReach_41 : decode cX6_layReach 41 = .ok (.goto (-31), 3) := by decide +kernel
theorem dX6_layReach_44 : decode cX6_layReach 44 = .ok (.iinc 1 1, 3) := by decide +kernel
theorem dX6_layReach_47 : decode cX6_layReach 47 = .ok (.goto (-45), 3) := by decide +kernel
theorem dX6_layReach_50 : decode cX6_layReach 50 = .ok (.iconst 0, 1) := by decide +kernel
theorem dX6_layReach_51 : decode cX6_layReach 51 = .ok (.istore_n 1, 1) := by decide +kernel
theorem dX6_layReach_52 : decode cX6_layReach 52 = .ok (.iload_n 1, 1) := by decide +kernel
theorem dX6_layReach_53 : decode cX6_layReach 53 = .ok (.bipush 12, 2) := by decide +kernel
theorem dX6_layReach_55 : decode cX6_layReach 55 = .ok (.if_icmp .ge 95, 3) := by decide +kernel
theorem dX6_layReach_58 : decode cX6_layReach 58 = .ok (.iconst 0, 1) := by decide +kernel
theorem dX6_layReach_59 : decode cX6_layReach 59 = .ok (.istore_n 2, 1) := by decide +kernel
theorem dX6_layReach_60 : decode cX6_layReach 60 = .ok (.iload_n 2, 1) := by decide +kernel
theorem dX6_layReach_61 : decode cX6_layReach 61 = .ok (.bipush 12, 2) := by decide +kernel
theorem dX6_layReach_63 : decode cX6_layReach 63 = .ok (.if_icmp .ge 81, 3) := by decide +kernel
theorem dX6_layReach_66 : decode cX6_layReach 66 = .ok (.iconst 0, 1) := by decide +kernel
theorem dX6_layReach_67 : decode cX6_layReach 67 = .ok (.istore_n 3, 1) := by decide +kernel
theorem dX6_layReach_68 : decode cX6_layReach 68 = .ok (.iload_n 3, 1) := by decide +kernel
theorem dX6_layReach_69 : decode cX6_layReach 69 = .ok (.bipush 12, 2) := by decide +kernel
theorem dX6_layReach_71 : decode cX6_layReach 71 = .ok (.if_icmp .ge 67, 3) := by decide +kernel
theorem dX6_layReach_74 : decode cX6_layReach 74 = .ok (.aload_n 0, 1) := by decide +kernel
theorem dX6_layReach_75 : decode cX6_layReach 75 = .ok (.getfield 137, 3) := by decide +kernel
theorem dX6_layReach_78 : decode cX6_layReach 78 = .ok (.bipush 12, 2) := by decide +kernel
theorem dX6_layReach_80 : decode cX6_layReach 80 = .ok (.iload_n 2, 1) := by decide +kernel
theorem dX6_layReach_81 : decode cX6_layReach 81 = .ok (.imul, 1) := by decide +kernel
theorem dX6_layReach_82 : decode cX6_layReach 82 = .ok (.iload_n 3, 1) := by decide +kernel
theorem dX6_layReach_83 : decode cX6_layReach 83 = .ok (.iadd, 1) := by decide +kernel
theorem dX6_layReach_84 : decode cX6_layReach 84 = .ok (.aload_n 0, 1) := by decide +kernel
theorem dX6_layReach_85 : decode cX6_layReach 85 = .ok (.getfield 137, 3) := by decide +kernel
theorem dX6_layReach_88 : decode cX6_layReach 88 = .ok (.bipush 12, 2) := by decide +kernel
theorem dX6_layReach_90 : decode cX6_layReach 90 = .ok (.iload_n 2, 1) := by decide +kernel
theorem dX6_layReach_91 : decode cX6_layReach 91 = .ok (.imul, 1) := by decide +kernel
theorem dX6_layReach_92 : decode cX6_layReach 92 = .ok (.iload_n 3, 1) := by decide +kernel
theorem dX6_layReach_93 : decode cX6_layReach 93 = .ok (.iadd, 1) := by decide +kernel
theorem dX6_layReach_94 : decode cX6_layReach 94 = .ok (.baload, 1) := by decide +kernel
theorem dX6_layReach_95 : decode cX6_layReach 95 = .ok (.ifCond .ne 31, 3) := by decide +kernel
theorem dX6_layReach_98 : decode cX6_layReach 98 = .ok (.aload_n 0, 1) := by decide +kernel
theorem dX6_layReach_99 : decode cX6_layReach 99 = .ok (.getfield 137, 3) := by decide +kernel
theorem dX6_layReach_102 : decode cX6_layReach 102 = .ok (.bipush 12, 2) := by decide +kernel
theorem dX6_layReach_104 : decode cX6_layReach 104 = .ok (.iload_n 2, 1) := by decide +kernel
theorem dX6_layReach_105 : decode cX6_layReach 105 = .ok (.imul, 1) := by decide +kernel
theorem dX6_layReach_106 : decode cX6_layReach 106 = .ok (.iload_n 1, 1) := by decide +kernel
theorem dX6_layReach_107 : decode cX6_layReach 107 = .ok (.iadd, 1) := by decide +kernel
theorem dX6_layReach_108 : decode cX6_layReach 108 = .ok (.baload, 1) := by decide +kernel
theorem dX6_layReach_109 : decode cX6_layReach 109 = .ok (.ifCond .eq 21, 3) := by decide +kernel
theorem dX6_layReach_112 : decode cX6_layReach 112 = .ok (.aload_n 0, 1) := by decide +kernel
theorem dX6_layReach_113 : decode cX6_layReach 113 = .ok (.getfield 137, 3) := by decide +kernel
theorem dX6_layReach_116 : decode cX6_layReach 116 = .ok (.bipush 12, 2) := by decide +kernel
theorem dX6_layReach_118 : decode cX6_layReach 118 = .ok (.iload_n 1, 1) := by decide +kernel
theorem dX6_layReach_119 : decode cX6_layReach 119 = .ok (.imul, 1) := by decide +kernel
theorem dX6_layReach_120 : decode cX6_layReach 120 = .ok (.iload_n 3, 1) := by decide +kernel
theorem dX6_layReach_121 : decode cX6_layReach 121 = .ok (.iadd, 1) := by decide +kernel
theorem dX6_layReach_122 : decode cX6_layReach 122 = .ok (.baload, 1) := by decide +kernel
theorem dX6_layReach_123 : decode cX6_layReach 123 = .ok (.ifCond .eq 7, 3) := by decide +kernel
theorem dX6_layReach_126 : decode cX6_layReach 126 = .ok (.iconst 1, 1) := by decide +kernel
theorem dX6_layReach_127 : decode cX6_layReach 127 = .ok (.goto 4, 3) := by decide +kernel
theorem dX6_layReach_130 : decode cX6_layReach 130 = .ok (.iconst 0, 1) := by decide +kernel
theorem dX6_layReach_131 : decode cX6_layReach 131 = .ok (.bastore, 1) := by decide +kernel
theorem dX6_layReach_132 : decode cX6_layReach 132 = .ok (.iinc 3 1, 3) := by decide +kernel
theorem dX6_layReach_135 : decode cX6_layReach 135 = .ok (.goto (-67), 3) := by decide +kernel
theorem dX6_layReach_138 : decode cX6_layReach 138 = .ok (.iinc 2 1, 3) := by decide +kernel
theorem dX6_layReach_141 : decode cX6_layReach 141 = .ok (.goto (-81), 3) := by decide +kernel
theorem dX6_layReach_144 : decode cX6_layReach 144 = .ok (.iinc 1 1, 3) := by decide +kernel
theorem dX6_layReach_147 : decode cX6_layReach 147 = .ok (.goto (-95), 3) := by decide +kernel
theorem dX6_layReach_150 : decode cX6_layReach 150 = .ok (.return_, 1) := by decide +kernel
theorem dX6_reaches_0 : decode cX6_reaches 0 = .ok (.iconst 0, 1) := by decide +kernel
theorem dX6_reaches_1 : decode cX6_reaches 1 = .ok (.istore_n 3, 1) := by decide +kernel
theorem dX6_reaches_2 : decode cX6_reaches 2 = .ok (.iconst 0, 1) := by decide +kernel
theorem dX6_reaches_3 : decode cX6_reaches 3 = .ok (.istore 4, 2) := by decide +kernel
theorem dX6_reaches_5 : decode cX6_reaches 5 = .ok (.iload 4, 2) := by decide +kernel
theorem dX6_reaches_7 : decode cX6_reaches 7 = .ok (.bipush 12, 2) := by decide +kernel
theorem dX6_reaches_9 : decode cX6_reaches 9 = .ok (.if_icmp .ge 73, 3) := by decide +kernel
theorem dX6_reaches_12 : decode cX6_reaches 12 = .ok (.iconst 0, 1) := by decide +kernel
theorem dX6_reaches_13 : decode cX6_reaches 13 = .ok (.istore 5, 2) := by decide +kernel
theorem dX6_reaches_15 : decode cX6_reaches 15 = .ok (.iload 5, 2) := by decide +kernel
theorem dX6_reaches_17 : decode cX6_reaches 17 = .ok (.bipush 12, 2) := by decide +kernel
theorem dX6_reaches_19 : decode cX6_reaches 19 = .ok (.if_icmp .ge 57, 3) := by decide +kernel
theorem dX6_reaches_22 : decode cX6_reaches 22 = .ok (.iload_n 3, 1) := by decide +kernel
theorem dX6_reaches_23 : decode cX6_reaches 23 = .ok (.ifCond .ne 41, 3) := by decide +kernel
theorem dX6_reaches_26 : decode cX6_reaches 26 = .ok (.aload_n 0, 1) := by decide +kernel
theorem dX6_reaches_27 : decode cX6_reaches 27 = .ok (.getfield 128, 3) := by decide +kernel
theorem dX6_reaches_30 : decode cX6_reaches 30 = .ok (.iload 4, 2) := by decide +kernel
theorem dX6_reaches_32 : decode cX6_reaches 32 = .ok (.iaload, 1) := by decide +kernel
theorem dX6_reaches_33 : decode cX6_reaches 33 = .ok (.iload_n 1, 1) := by decide +kernel
theorem dX6_reaches_34 : decode cX6_reaches 34 = .ok (.if_icmp .ne 34, 3) := by decide +kernel
theorem dX6_reaches_37 : decode cX6_reaches 37 = .ok (.aload_n 0, 1) := by decide +kernel
theorem dX6_reaches_38 : decode cX6_reaches 38 = .ok (.getfield 128, 3) := by decide +kernel
theorem dX6_reaches_41 : decode cX6_reaches 41 = .ok (.iload 5, 2) := by decide +kernel
theorem dX6_reaches_43 : decode cX6_reaches 43 = .ok (.iaload, 1) := by decide +kernel
theorem dX6_reaches_44 : decode cX6_reaches 44 = .ok (.iload_n 2, 1) := by decide +kernel
theorem dX6_reaches_45 : decode cX6_reaches 45 = .ok (.if_icmp .ne 23, 3) := by decide +kernel
theorem dX6_reaches_48 : decode cX6_reaches 48 = .ok (.aload_n 0, 1) := by decide +kernel
theorem dX6_reaches_49 : decode cX6_reaches 49 = .ok (.getfield 137, 3) := by decide +kernel
theorem dX6_reaches_52 : decode cX6_reaches 52 = .ok (.bipush 12, 2) := by decide +kernel
theorem dX6_reaches_54 : decode cX6_reaches 54 = .ok (.iload 4, 2) := by decide +kernel
theorem dX6_reaches_56 : decode cX6_reaches 56 = .ok (.imul, 1) := by decide +kernel
theorem dX6_reaches_57 : decode cX6_reaches 57 = .ok (.iload 5, 2) := by decide +kernel
theorem dX6_reaches_59 : decode cX6_reaches 59 = .ok (.iadd, 1) := by decide +kernel
theorem dX6_reaches_60 : decode cX6_reaches 60 = .ok (.baload, 1) := by decide +kernel
theorem dX6_reaches_61 : decode cX6_reaches 61 = .ok (.ifCond .eq 7, 3) := by decide +kernel
theorem dX6_reaches_64 : decode cX6_reaches 64 = .ok (.iconst 1, 1) := by decide +kernel
theorem dX6_reaches_65 : decode cX6_reaches 65 = .ok (.goto 4, 3) := by decide +kernel
theorem dX6_reaches_68 : decode cX6_reaches 68 = .ok (.iconst 0, 1) := by decide +kernel
theorem dX6_reaches_69 : decode cX6_reaches 69 = .ok (.istore_n 3, 1) := by decide +kernel
theorem dX6_reaches_70 : decode cX6_reaches 70 = .ok (.iinc 5 1, 3) := by decide +kernel
theorem dX6_reaches_73 : decode cX6_reaches 73 = .ok (.goto (-58), 3) := by decide +kernel
theorem dX6_reaches_76 : decode cX6_reaches 76 = .ok (.iinc 4 1, 3) := by decide +kernel
theorem dX6_reaches_79 : decode cX6_reaches 79 = .ok (.goto (-74), 3) := by decide +kernel
theorem dX6_reaches_82 : decode cX6_reaches 82 = .ok (.iload_n 3, 1) := by decide +kernel
theorem dX6_reaches_83 : decode cX6_reaches 83 = .ok (.ireturn, 1) := by decide +kernel
theorem dX6_joinParts_0 : decode cX6_joinParts 0 = .ok (.iconst 1, 1) := by decide +kernel
theorem dX6_joinParts_1 : decode cX6_joinParts 1 = .ok (.istore_n 1, 1) := by decide +kernel
theorem dX6_joinParts_2 : decode cX6_joinParts 2 = .ok (.iload_n 1, 1) := by decide +kernel
theorem dX6_joinParts_3 : decode cX6_joinParts 3 = .ok (.ifCond .eq 141, 3) := by decide +kernel
theorem dX6_joinParts_6 : decode cX6_joinParts 6 = .ok (.iconst 0, 1) := by decide +kernel
theorem dX6_joinParts_7 : decode cX6_joinParts 7 = .ok (.istore_n 1, 1) := by decide +kernel
theorem dX6_joinParts_8 : decode cX6_joinParts 8 = .ok (.iconst 0, 1) := by decide +kernel
theorem dX6_joinParts_9 : decode cX6_joinParts 9 = .ok (.istore_n 2, 1) := by decide +kernel
theorem dX6_joinParts_10 : decode cX6_joinParts 10 = .ok (.iload_n 2, 1) := by decide +kernel
theorem dX6_joinParts_11 : decode cX6_joinParts 11 = .ok (.aload_n 0, 1) := by decide +kernel
theorem dX6_joinParts_12 : decode cX6_joinParts 12 = .ok (.getfield 295, 3) := by decide +kernel
theorem dX6_joinParts_15 : decode cX6_joinParts 15 = .ok (.if_icmp .ge 122, 3) := by decide +kernel
theorem dX6_joinParts_18 : decode cX6_joinParts 18 = .ok (.iload_n 1, 1) := by decide +kernel
theorem dX6_joinParts_19 : decode cX6_joinParts 19 = .ok (.ifCond .ne 118, 3) := by decide +kernel
theorem dX6_joinParts_22 : decode cX6_joinParts 22 = .ok (.iload_n 2, 1) := by decide +kernel
theorem dX6_joinParts_23 : decode cX6_joinParts 23 = .ok (.iconst 1, 1) := by decide +kernel
theorem dX6_joinParts_24 : decode cX6_joinParts 24 = .ok (.iadd, 1) := by decide +kernel
theorem dX6_joinParts_25 : decode cX6_joinParts 25 = .ok (.istore_n 3, 1) := by decide +kernel
theorem dX6_joinParts_26 : decode cX6_joinParts 26 = .ok (.iload_n 3, 1) := by decide +kernel
theorem dX6_joinParts_27 : decode cX6_joinParts 27 = .ok (.aload_n 0, 1) := by decide +kernel
theorem dX6_joinParts_28 : decode cX6_joinParts 28 = .ok (.getfield 295, 3) := by decide +kernel
theorem dX6_joinParts_31 : decode cX6_joinParts 31 = .ok (.if_icmp .ge 100, 3) := by decide +kernel
theorem dX6_joinParts_34 : decode cX6_joinParts 34 = .ok (.iload_n 1, 1) := by decide +kernel
theorem dX6_joinParts_35 : decode cX6_joinParts 35 = .ok (.ifCond .ne 96, 3) := by decide +kernel
theorem dX6_joinParts_38 : decode cX6_joinParts 38 = .ok (.aload_n 0, 1) := by decide +kernel
theorem dX6_joinParts_39 : decode cX6_joinParts 39 = .ok (.getfield 131, 3) := by decide +kernel
theorem dX6_joinParts_42 : decode cX6_joinParts 42 = .ok (.iload_n 2, 1) := by decide +kernel
theorem dX6_joinParts_43 : decode cX6_joinParts 43 = .ok (.iaload, 1) := by decide +kernel
theorem dX6_joinParts_44 : decode cX6_joinParts 44 = .ok (.istore 4, 2) := by decide +kernel
theorem dX6_joinParts_46 : decode cX6_joinParts 46 = .ok (.aload_n 0, 1) := by decide +kernel
theorem dX6_joinParts_47 : decode cX6_joinParts 47 = .ok (.getfield 131, 3) := by decide +kernel
theorem dX6_joinParts_50 : decode cX6_joinParts 50 = .ok (.iload_n 3, 1) := by decide +kernel
theorem dX6_joinParts_51 : decode cX6_joinParts 51 = .ok (.iaload, 1) := by decide +kernel
theorem dX6_joinParts_52 : decode cX6_joinParts 52 = .ok (.istore 5, 2) := by decide +kernel
theorem dX6_joinParts_54 : decode cX6_joinParts 54 = .ok (.aload_n 0, 1) := by decide +kernel
theorem dX6_joinParts_55 : decode cX6_joinParts 55 = .ok (.iload 4, 2) := by decide +kernel
theorem dX6_joinParts_57 : decode cX6_joinParts 57 = .ok (.iload 5, 2) := by decide +kernel
theorem dX6_joinParts_59 : decode cX6_joinParts 59 = .ok (.invokevirtual 301, 3) := by decide +kernel
theorem dX6_joinParts_62 : decode cX6_joinParts 62 = .ok (.ifCond .eq 63, 3) := by decide +kernel
theorem dX6_joinParts_65 : decode cX6_joinParts 65 = .ok (.aload_n 0, 1) := by decide +kernel
theorem dX6_joinParts_66 : decode cX6_joinParts 66 = .ok (.iload 5, 2) := by decide +kernel
theorem dX6_joinParts_68 : decode cX6_joinParts 68 = .ok (.iload 4, 2) := by decide +kernel
theorem dX6_joinParts_70 : decode cX6_joinParts 70 = .ok (.invokevirtual 301, 3) := by decide +kernel
theorem dX6_joinParts_73 : decode cX6_joinParts 73 = .ok (.ifCond .eq 52, 3) := by decide +kernel
theorem dX6_joinParts_76 : decode cX6_joinParts 76 = .ok (.iconst 0, 1) := by decide +kernel
theorem dX6_joinParts_77 : decode cX6_joinParts 77 = .ok (.istore 6, 2) := by decide +kernel
theorem dX6_joinParts_79 : decode cX6_joinParts 79 = .ok (.iload 6, 2) := by decide +kernel
theorem dX6_joinParts_81 : decode cX6_joinParts 81 = .ok (.bipush 12, 2) := by decide +kernel
theorem dX6_joinParts_83 : decode cX6_joinParts 83 = .ok (.if_icmp .ge 40, 3) := by decide +kernel
theorem dX6_joinParts_86 : decode cX6_joinParts 86 = .ok (.aload_n 0, 1) := by decide +kernel
theorem dX6_joinParts_87 : decode cX6_joinParts 87 = .ok (.getfield 128, 3) := by decide +kernel
theorem dX6_joinParts_90 : decode cX6_joinParts 90 = .ok (.iload 6, 2) := by decide +kernel
theorem dX6_joinParts_92 : decode cX6_joinParts 92 = .ok (.aload_n 0, 1) := by decide +kernel
theorem dX6_joinParts_93 : decode cX6_joinParts 93 = .ok (.getfield 128, 3) := by decide +kernel
theorem dX6_joinParts_96 : decode cX6_joinParts 96 = .ok (.iload 6, 2) := by decide +kernel
theorem dX6_joinParts_98 : decode cX6_joinParts 98 = .ok (.iaload, 1) := by decide +kernel
theorem dX6_joinParts_99 : decode cX6_joinParts 99 = .ok (.iload 5, 2) := by decide +kernel
theorem dX6_joinParts_101 : decode cX6_joinParts 101 = .ok (.if_icmp .ne 8, 3) := by decide +kernel
theorem dX6_joinParts_104 : decode cX6_joinParts 104 = .ok (.iload 4, 2) := by decide +kernel
theorem dX6_joinParts_106 : decode cX6_joinParts 106 = .ok (.goto 10, 3) := by decide +kernel
theorem dX6_joinParts_109 : decode cX6_joinParts 109 = .ok (.aload_n 0, 1) := by decide +kernel
theorem dX6_joinParts_110 : decode cX6_joinParts 110 = .ok (.getfield 128, 3) := by decide +kernel
theorem dX6_joinParts_113 : decode cX6_joinParts 113 = .ok (.iload 6, 2) := by decide +kernel
theorem dX6_joinParts_115 : decode cX6_joinParts 115 = .ok (.iaload, 1) := by decide +kernel
theorem dX6_joinParts_116 : decode cX6_joinParts 116 = .ok (.iastore, 1) := by decide +kernel
theorem dX6_joinParts_117 : decode cX6_joinParts 117 = .ok (.iinc 6 1, 3) := by decide +kernel
theorem dX6_joinParts_120 : decode cX6_joinParts 120 = .ok (.goto (-41), 3) := by decide +kernel
theorem dX6_joinParts_123 : decode cX6_joinParts 123 = .ok (.iconst 1, 1) := by decide +kernel
theorem dX6_joinParts_124 : decode cX6_joinParts 124 = .ok (.istore_n 1, 1) := by decide +kernel
theorem dX6_joinParts_125 : decode cX6_joinParts 125 = .ok (.iinc 3 1, 3) := by decide +kernel
theorem dX6_joinParts_128 : decode cX6_joinParts 128 = .ok (.goto (-102), 3) := by decide +kernel
theorem dX6_joinParts_131 : decode cX6_joinParts 131 = .ok (.iinc 2 1, 3) := by decide +kernel
theorem dX6_joinParts_134 : decode cX6_joinParts 134 = .ok (.goto (-124), 3) := by decide +kernel
theorem dX6_joinParts_137 : decode cX6_joinParts 137 = .ok (.aload_n 0, 1) := by decide +kernel
theorem dX6_joinParts_138 : decode cX6_joinParts 138 = .ok (.invokevirtual 298, 3) := by decide +kernel
theorem dX6_joinParts_141 : decode cX6_joinParts 141 = .ok (.goto (-139), 3) := by decide +kernel
theorem dX6_joinParts_144 : decode cX6_joinParts 144 = .ok (.return_, 1) := by decide +kernel
theorem dX6_orderParts_0 : decode cX6_orderParts 0 = .ok (.iconst 1, 1) := by decide +kernel
theorem dX6_orderParts_1 : decode cX6_orderParts 1 = .ok (.istore_n 1, 1) := by decide +kernel
theorem dX6_orderParts_2 : decode cX6_orderParts 2 = .ok (.iload_n 1, 1) := by decide +kernel
theorem dX6_orderParts_3 : decode cX6_orderParts 3 = .ok (.aload_n 0, 1) := by decide +kernel
theorem dX6_orderParts_4 : decode cX6_orderParts 4 = .ok (.getfield 295, 3) := by decide +kernel
theorem dX6_orderParts_7 : decode cX6_orderParts 7 = .ok (.if_icmp .ge 65, 3) := by decide +kernel
theorem dX6_orderParts_10 : decode cX6_orderParts 10 = .ok (.aload_n 0, 1) := by decide +kernel
theorem dX6_orderParts_11 : decode cX6_orderParts 11 = .ok (.getfield 131, 3) := by decide +kernel
theorem dX6_orderParts_14 : decode cX6_orderParts 14 = .ok (.iload_n 1, 1) := by decide +kernel
theorem dX6_orderParts_15 : decode cX6_orderParts 15 = .ok (.iaload, 1) := by decide +kernel
theorem dX6_orderParts_16 : decode cX6_orderParts 16 = .ok (.istore_n 2, 1) := by decide +kernel
theorem dX6_orderParts_17 : decode cX6_orderParts 17 = .ok (.iload_n 1, 1) := by decide +kernel
theorem dX6_orderParts_18 : decode cX6_orderParts 18 = .ok (.istore_n 3, 1) := by decide +kernel
theorem dX6_orderParts_19 : decode cX6_orderParts 19 = .ok (.iload_n 3, 1) := by decide +kernel
theorem dX6_orderParts_20 : decode cX6_orderParts 20 = .ok (.ifCond .le 39, 3) := by decide +kernel
theorem dX6_orderParts_23 : decode cX6_orderParts 23 = .ok (.aload_n 0, 1) := by decide +kernel
theorem dX6_orderParts_24 : decode cX6_orderParts 24 = .ok (.iload_n 2, 1) := by decide +kernel
theorem dX6_orderParts_25 : decode cX6_orderParts 25 = .ok (.aload_n 0, 1) := by decide +kernel
theorem dX6_orderParts_26 : decode cX6_orderParts 26 = .ok (.getfield 131, 3) := by decide +kernel
theorem dX6_orderParts_29 : decode cX6_orderParts 29 = .ok (.iload_n 3, 1) := by decide +kernel
theorem dX6_orderParts_30 : decode cX6_orderParts 30 = .ok (.iconst 1, 1) := by decide +kernel
theorem dX6_orderParts_31 : decode cX6_orderParts 31 = .ok (.isub, 1) := by decide +kernel
theorem dX6_orderParts_32 : decode cX6_orderParts 32 = .ok (.iaload, 1) := by decide +kernel
theorem dX6_orderParts_33 : decode cX6_orderParts 33 = .ok (.invokevirtual 301, 3) := by decide +kernel
theorem dX6_orderParts_36 : decode cX6_orderParts 36 = .ok (.ifCond .eq 23, 3) := by decide +kernel
theorem dX6_orderParts_39 : decode cX6_orderParts 39 = .ok (.aload_n 0, 1) := by decide +kernel
theorem dX6_orderParts_40 : decode cX6_orderParts 40 = .ok (.getfield 131, 3) := by decide +kernel
theorem dX6_orderParts_43 : decode cX6_orderParts 43 = .ok (.iload_n 3, 1) := by decide +kernel
theorem dX6_orderParts_44 : decode cX6_orderParts 44 = .ok (.aload_n 0, 1) := by decide +kernel
theorem dX6_orderParts_45 : decode cX6_orderParts 45 = .ok (.getfield 131, 3) := by decide +kernel
theorem dX6_orderParts_48 : decode cX6_orderParts 48 = .ok (.iload_n 3, 1) := by decide +kernel
theorem dX6_orderParts_49 : decode cX6_orderParts 49 = .ok (.iconst 1, 1) := by decide +kernel
theorem dX6_orderParts_50 : decode cX6_orderParts 50 = .ok (.isub, 1) := by decide +kernel
theorem dX6_orderParts_51 : decode cX6_orderParts 51 = .ok (.iaload, 1) := by decide +kernel
theorem dX6_orderParts_52 : decode cX6_orderParts 52 = .ok (.iastore, 1) := by decide +kernel
theorem dX6_orderParts_53 : decode cX6_orderParts 53 = .ok (.iinc 3 (-1), 3) := by decide +kernel
theorem dX6_orderParts_56 : decode cX6_orderParts 56 = .ok (.goto (-37), 3) := by decide +kernel
theorem dX6_orderParts_59 : decode cX6_orderParts 59 = .ok (.aload_n 0, 1) := by decide +kernel
theorem dX6_orderParts_60 : decode cX6_orderParts 60 = .ok (.getfield 131, 3) := by decide +kernel
theorem dX6_orderParts_63 : decode cX6_orderParts 63 = .ok (.iload_n 3, 1) := by decide +kernel
theorem dX6_orderParts_64 : decode cX6_orderParts 64 = .ok (.iload_n 2, 1) := by decide +kernel
theorem dX6_orderParts_65 : decode cX6_orderParts 65 = .ok (.iastore, 1) := by decide +kernel
theorem dX6_orderParts_66 : decode cX6_orderParts 66 = .ok (.iinc 1 1, 3) := by decide +kernel
theorem dX6_orderParts_69 : decode cX6_orderParts 69 = .ok (.goto (-67), 3) := by decide +kernel
theorem dX6_orderParts_72 : decode cX6_orderParts 72 = .ok (.return_, 1) := by decide +kernel
theorem dX6_cutsChoice_0 : decode cX6_cutsChoice 0 = .ok (.iconst 0, 1) := by decide +kernel
theorem dX6_cutsChoice_1 : decode cX6_cutsChoice 1 = .ok (.istore_n 1, 1) := by decide +kernel
theorem dX6_cutsChoice_2 : decode cX6_cutsChoice 2 = .ok (.iload_n 1, 1) := by decide +kernel
theorem dX6_cutsChoice_3 : decode cX6_cutsChoice 3 = .ok (.sipush 144, 3) := by decide +kernel
theorem dX6_cutsChoice_6 : decode cX6_cutsChoice 6 = .ok (.if_icmp .ge 21, 3) := by decide +kernel
theorem dX6_cutsChoice_9 : decode cX6_cutsChoice 9 = .ok (.aload_n 0, 1) := by decide +kernel
theorem dX6_cutsChoice_10 : decode cX6_cutsChoice 10 = .ok (.getfield 134, 3) := by decide +kernel
theorem dX6_cutsChoice_13 : decode cX6_cutsChoice 13 = .ok (.iload_n 1, 1) := by decide +kernel
theorem dX6_cutsChoice_14 : decode cX6_cutsChoice 14 = .ok (.aload_n 0, 1) := by decide +kernel
theorem dX6_cutsChoice_15 : decode cX6_cutsChoice 15 = .ok (.getfield 116, 3) := by decide +kernel
theorem dX6_cutsChoice_18 : decode cX6_cutsChoice 18 = .ok (.iload_n 1, 1) := by decide +kernel
theorem dX6_cutsChoice_19 : decode cX6_cutsChoice 19 = .ok (.baload, 1) := by decide +kernel
theorem dX6_cutsChoice_20 : decode cX6_cutsChoice 20 = .ok (.bastore, 1) := by decide +kernel
theorem dX6_cutsChoice_21 : decode cX6_cutsChoice 21 = .ok (.iinc 1 1, 3) := by decide +kernel
theorem dX6_cutsChoice_24 : decode cX6_cutsChoice 24 = .ok (.goto (-22), 3) := by decide +kernel
theorem dX6_cutsChoice_27 : decode cX6_cutsChoice 27 = .ok (.aload_n 0, 1) := by decide +kernel
theorem dX6_cutsChoice_28 : decode cX6_cutsChoice 28 = .ok (.aload_n 0, 1) := by decide +kernel
theorem dX6_cutsChoice_29 : decode cX6_cutsChoice 29 = .ok (.getfield 119, 3) := by decide +kernel
theorem dX6_cutsChoice_32 : decode cX6_cutsChoice 32 = .ok (.invokevirtual 305, 3) := by decide +kernel
theorem dX6_cutsChoice_35 : decode cX6_cutsChoice 35 = .ok (.aload_n 0, 1) := by decide +kernel
theorem dX6_cutsChoice_36 : decode cX6_cutsChoice 36 = .ok (.getfield 295, 3) := by decide +kernel
theorem dX6_cutsChoice_39 : decode cX6_cutsChoice 39 = .ok (.iconst 1, 1) := by decide +kernel
theorem dX6_cutsChoice_40 : decode cX6_cutsChoice 40 = .ok (.if_icmp .le 7, 3) := by decide +kernel
theorem dX6_cutsChoice_43 : decode cX6_cutsChoice 43 = .ok (.iconst 1, 1) := by decide +kernel
theorem dX6_cutsChoice_44 : decode cX6_cutsChoice 44 = .ok (.goto 4, 3) := by decide +kernel
theorem dX6_cutsChoice_47 : decode cX6_cutsChoice 47 = .ok (.iconst 0, 1) := by decide +kernel
theorem dX6_cutsChoice_48 : decode cX6_cutsChoice 48 = .ok (.ireturn, 1) := by decide +kernel
theorem dX6_cutsRow_0 : decode cX6_cutsRow 0 = .ok (.aload_n 0, 1) := by decide +kernel
theorem dX6_cutsRow_1 : decode cX6_cutsRow 1 = .ok (.invokevirtual 309, 3) := by decide +kernel
theorem dX6_cutsRow_4 : decode cX6_cutsRow 4 = .ok (.iconst 0, 1) := by decide +kernel
theorem dX6_cutsRow_5 : decode cX6_cutsRow 5 = .ok (.istore_n 1, 1) := by decide +kernel
theorem dX6_cutsRow_6 : decode cX6_cutsRow 6 = .ok (.iload_n 1, 1) := by decide +kernel
theorem dX6_cutsRow_7 : decode cX6_cutsRow 7 = .ok (.bipush 12, 2) := by decide +kernel
theorem dX6_cutsRow_9 : decode cX6_cutsRow 9 = .ok (.if_icmp .ge 64, 3) := by decide +kernel
theorem dX6_cutsRow_12 : decode cX6_cutsRow 12 = .ok (.iconst 0, 1) := by decide +kernel
theorem dX6_cutsRow_13 : decode cX6_cutsRow 13 = .ok (.istore_n 2, 1) := by decide +kernel
theorem dX6_cutsRow_14 : decode cX6_cutsRow 14 = .ok (.iload_n 2, 1) := by decide +kernel
theorem dX6_cutsRow_15 : decode cX6_cutsRow 15 = .ok (.bipush 12, 2) := by decide +kernel
theorem dX6_cutsRow_17 : decode cX6_cutsRow 17 = .ok (.if_icmp .ge 50, 3) := by decide +kernel
theorem dX6_cutsRow_20 : decode cX6_cutsRow 20 = .ok (.aload_n 0, 1) := by decide +kernel
theorem dX6_cutsRow_21 : decode cX6_cutsRow 21 = .ok (.getfield 134, 3) := by decide +kernel
theorem dX6_cutsRow_24 : decode cX6_cutsRow 24 = .ok (.bipush 12, 2) := by decide +kernel
theorem dX6_cutsRow_26 : decode cX6_cutsRow 26 = .ok (.iload_n 1, 1) := by decide +kernel
theorem dX6_cutsRow_27 : decode cX6_cutsRow 27 = .ok (.imul, 1) := by decide +kernel
theorem dX6_cutsRow_28 : decode cX6_cutsRow 28 = .ok (.iload_n 2, 1) := by decide +kernel
theorem dX6_cutsRow_29 : decode cX6_cutsRow 29 = .ok (.iadd, 1) := by decide +kernel
theorem dX6_cutsRow_30 : decode cX6_cutsRow 30 = .ok (.aload_n 0, 1) := by decide +kernel
theorem dX6_cutsRow_31 : decode cX6_cutsRow 31 = .ok (.getfield 137, 3) := by decide +kernel
theorem dX6_cutsRow_34 : decode cX6_cutsRow 34 = .ok (.bipush 12, 2) := by decide +kernel
theorem dX6_cutsRow_36 : decode cX6_cutsRow 36 = .ok (.iload_n 1, 1) := by decide +kernel
theorem dX6_cutsRow_37 : decode cX6_cutsRow 37 = .ok (.imul, 1) := by decide +kernel
theorem dX6_cutsRow_38 : decode cX6_cutsRow 38 = .ok (.iload_n 2, 1) := by decide +kernel
theorem dX6_cutsRow_39 : decode cX6_cutsRow 39 = .ok (.iadd, 1) := by decide +kernel
theorem dX6_cutsRow_40 : decode cX6_cutsRow 40 = .ok (.baload, 1) := by decide +kernel
theorem dX6_cutsRow_41 : decode cX6_cutsRow 41 = .ok (.aload_n 0, 1) := by decide +kernel
theorem dX6_cutsRow_42 : decode cX6_cutsRow 42 = .ok (.getfield 137, 3) := by decide +kernel
theorem dX6_cutsRow_45 : decode cX6_cutsRow 45 = .ok (.bipush 12, 2) := by decide +kernel
theorem dX6_cutsRow_47 : decode cX6_cutsRow 47 = .ok (.iload_n 2, 1) := by decide +kernel
theorem dX6_cutsRow_48 : decode cX6_cutsRow 48 = .ok (.imul, 1) := by decide +kernel
theorem dX6_cutsRow_49 : decode cX6_cutsRow 49 = .ok (.iload_n 1, 1) := by decide +kernel
theorem dX6_cutsRow_50 : decode cX6_cutsRow 50 = .ok (.iadd, 1) := by decide +kernel
theorem dX6_cutsRow_51 : decode cX6_cutsRow 51 = .ok (.baload, 1) := by decide +kernel
theorem dX6_cutsRow_52 : decode cX6_cutsRow 52 = .ok (.if_icmp .ne 7, 3) := by decide +kernel
theorem dX6_cutsRow_55 : decode cX6_cutsRow 55 = .ok (.iconst 1, 1) := by decide +kernel
theorem dX6_cutsRow_56 : decode cX6_cutsRow 56 = .ok (.goto 4, 3) := by decide +kernel
theorem dX6_cutsRow_59 : decode cX6_cutsRow 59 = .ok (.iconst 0, 1) := by decide +kernel
theorem dX6_cutsRow_60 : decode cX6_cutsRow 60 = .ok (.bastore, 1) := by decide +kernel
theorem dX6_cutsRow_61 : decode cX6_cutsRow 61 = .ok (.iinc 2 1, 3) := by decide +kernel
theorem dX6_cutsRow_64 : decode cX6_cutsRow 64 = .ok (.goto (-50), 3) := by decide +kernel
theorem dX6_cutsRow_67 : decode cX6_cutsRow 67 = .ok (.iinc 1 1, 3) := by decide +kernel
theorem dX6_cutsRow_70 : decode cX6_cutsRow 70 = .ok (.goto (-64), 3) := by decide +kernel
theorem dX6_cutsRow_73 : decode cX6_cutsRow 73 = .ok (.aload_n 0, 1) := by decide +kernel
theorem dX6_cutsRow_74 : decode cX6_cutsRow 74 = .ok (.aload_n 0, 1) := by decide +kernel
theorem dX6_cutsRow_75 : decode cX6_cutsRow 75 = .ok (.getfield 119, 3) := by decide +kernel
theorem dX6_cutsRow_78 : decode cX6_cutsRow 78 = .ok (.invokevirtual 305, 3) := by decide +kernel
theorem dX6_cutsRow_81 : decode cX6_cutsRow 81 = .ok (.aload_n 0, 1) := by decide +kernel
theorem dX6_cutsRow_82 : decode cX6_cutsRow 82 = .ok (.invokevirtual 312, 3) := by decide +kernel
theorem dX6_cutsRow_85 : decode cX6_cutsRow 85 = .ok (.aload_n 0, 1) := by decide +kernel
theorem dX6_cutsRow_86 : decode cX6_cutsRow 86 = .ok (.invokevirtual 315, 3) := by decide +kernel
theorem dX6_cutsRow_89 : decode cX6_cutsRow 89 = .ok (.aload_n 0, 1) := by decide +kernel
theorem dX6_cutsRow_90 : decode cX6_cutsRow 90 = .ok (.getfield 295, 3) := by decide +kernel
theorem dX6_cutsRow_93 : decode cX6_cutsRow 93 = .ok (.iconst 1, 1) := by decide +kernel
theorem dX6_cutsRow_94 : decode cX6_cutsRow 94 = .ok (.if_icmp .le 7, 3) := by decide +kernel
theorem dX6_cutsRow_97 : decode cX6_cutsRow 97 = .ok (.iconst 1, 1) := by decide +kernel
theorem dX6_cutsRow_98 : decode cX6_cutsRow 98 = .ok (.goto 4, 3) := by decide +kernel
theorem dX6_cutsRow_101 : decode cX6_cutsRow 101 = .ok (.iconst 0, 1) := by decide +kernel
theorem dX6_cutsRow_102 : decode cX6_cutsRow 102 = .ok (.ireturn, 1) := by decide +kernel
theorem dX6_cutsBeside_0 : decode cX6_cutsBeside 0 = .ok (.iconst 0, 1) := by decide +kernel
theorem dX6_cutsBeside_1 : decode cX6_cutsBeside 1 = .ok (.istore_n 1, 1) := by decide +kernel
theorem dX6_cutsBeside_2 : decode cX6_cutsBeside 2 = .ok (.iload_n 1, 1) := by decide +kernel
theorem dX6_cutsBeside_3 : decode cX6_cutsBeside 3 = .ok (.bipush 12, 2) := by decide +kernel
theorem dX6_cutsBeside_5 : decode cX6_cutsBeside 5 = .ok (.if_icmp .ge 67, 3) := by decide +kernel
theorem dX6_cutsBeside_8 : decode cX6_cutsBeside 8 = .ok (.iconst 0, 1) := by decide +kernel
theorem dX6_cutsBeside_9 : decode cX6_cutsBeside 9 = .ok (.istore_n 2, 1) := by decide +kernel
theorem dX6_cutsBeside_10 : decode cX6_cutsBeside 10 = .ok (.iload_n 2, 1) := by decide +kernel
theorem dX6_cutsBeside_11 : decode cX6_cutsBeside 11 = .ok (.bipush 12, 2) := by decide +kernel
theorem dX6_cutsBeside_13 : decode cX6_cutsBeside 13 = .ok (.if_icmp .ge 53, 3) := by decide +kernel
theorem dX6_cutsBeside_16 : decode cX6_cutsBeside 16 = .ok (.aload_n 0, 1) := by decide +kernel
theorem dX6_cutsBeside_17 : decode cX6_cutsBeside 17 = .ok (.getfield 134, 3) := by decide +kernel
theorem dX6_cutsBeside_20 : decode cX6_cutsBeside 20 = .ok (.bipush 12, 2) := by decide +kernel
theorem dX6_cutsBeside_22 : decode cX6_cutsBeside 22 = .ok (.iload_n 1, 1) := by decide +kernel
theorem dX6_cutsBeside_23 : decode cX6_cutsBeside 23 = .ok (.imul, 1) := by decide +kernel
theorem dX6_cutsBeside_24 : decode cX6_cutsBeside 24 = .ok (.iload_n 2, 1) := by decide +kernel
theorem dX6_cutsBeside_25 : decode cX6_cutsBeside 25 = .ok (.iadd, 1) := by decide +kernel
theorem dX6_cutsBeside_26 : decode cX6_cutsBeside 26 = .ok (.aload_n 0, 1) := by decide +kernel
theorem dX6_cutsBeside_27 : decode cX6_cutsBeside 27 = .ok (.getfield 116, 3) := by decide +kernel
theorem dX6_cutsBeside_30 : decode cX6_cutsBeside 30 = .ok (.bipush 12, 2) := by decide +kernel
theorem dX6_cutsBeside_32 : decode cX6_cutsBeside 32 = .ok (.iload_n 1, 1) := by decide +kernel
theorem dX6_cutsBeside_33 : decode cX6_cutsBeside 33 = .ok (.imul, 1) := by decide +kernel
theorem dX6_cutsBeside_34 : decode cX6_cutsBeside 34 = .ok (.iload_n 2, 1) := by decide +kernel
theorem dX6_cutsBeside_35 : decode cX6_cutsBeside 35 = .ok (.iadd, 1) := by decide +kernel
theorem dX6_cutsBeside_36 : decode cX6_cutsBeside 36 = .ok (.baload, 1) := by decide +kernel
theorem dX6_cutsBeside_37 : decode cX6_cutsBeside 37 = .ok (.ifCond .eq 17, 3) := by decide +kernel
theorem dX6_cutsBeside_40 : decode cX6_cutsBeside 40 = .ok (.aload_n 0, 1) := by decide +kernel
theorem dX6_cutsBeside_41 : decode cX6_cutsBeside 41 = .ok (.getfield 116, 3) := by decide +kernel
theorem dX6_cutsBeside_44 : decode cX6_cutsBeside 44 = .ok (.bipush 12, 2) := by decide +kernel
theorem dX6_cutsBeside_46 : decode cX6_cutsBeside 46 = .ok (.iload_n 2, 1) := by decide +kernel
theorem dX6_cutsBeside_47 : decode cX6_cutsBeside 47 = .ok (.imul, 1) := by decide +kernel
theorem dX6_cutsBeside_48 : decode cX6_cutsBeside 48 = .ok (.iload_n 1, 1) := by decide +kernel
theorem dX6_cutsBeside_49 : decode cX6_cutsBeside 49 = .ok (.iadd, 1) := by decide +kernel
theorem dX6_cutsBeside_50 : decode cX6_cutsBeside 50 = .ok (.baload, 1) := by decide +kernel
theorem dX6_cutsBeside_51 : decode cX6_cutsBeside 51 = .ok (.ifCond .ne 7, 3) := by decide +kernel
theorem dX6_cutsBeside_54 : decode cX6_cutsBeside 54 = .ok (.iconst 1, 1) := by decide +kernel
theorem dX6_cutsBeside_55 : decode cX6_cutsBeside 55 = .ok (.goto 4, 3) := by decide +kernel
theorem dX6_cutsBeside_58 : decode cX6_cutsBeside 58 = .ok (.iconst 0, 1) := by decide +kernel
theorem dX6_cutsBeside_59 : decode cX6_cutsBeside 59 = .ok (.bastore, 1) := by decide +kernel
theorem dX6_cutsBeside_60 : decode cX6_cutsBeside 60 = .ok (.iinc 2 1, 3) := by decide +kernel
theorem dX6_cutsBeside_63 : decode cX6_cutsBeside 63 = .ok (.goto (-53), 3) := by decide +kernel
theorem dX6_cutsBeside_66 : decode cX6_cutsBeside 66 = .ok (.iinc 1 1, 3) := by decide +kernel
theorem dX6_cutsBeside_69 : decode cX6_cutsBeside 69 = .ok (.goto (-67), 3) := by decide +kernel
theorem dX6_cutsBeside_72 : decode cX6_cutsBeside 72 = .ok (.aload_n 0, 1) := by decide +kernel
theorem dX6_cutsBeside_73 : decode cX6_cutsBeside 73 = .ok (.aload_n 0, 1) := by decide +kernel
theorem dX6_cutsBeside_74 : decode cX6_cutsBeside 74 = .ok (.getfield 119, 3) := by decide +kernel
theorem dX6_cutsBeside_77 : decode cX6_cutsBeside 77 = .ok (.invokevirtual 305, 3) := by decide +kernel
theorem dX6_cutsBeside_80 : decode cX6_cutsBeside 80 = .ok (.aload_n 0, 1) := by decide +kernel
theorem dX6_cutsBeside_81 : decode cX6_cutsBeside 81 = .ok (.getfield 295, 3) := by decide +kernel
theorem dX6_cutsBeside_84 : decode cX6_cutsBeside 84 = .ok (.iconst 1, 1) := by decide +kernel
theorem dX6_cutsBeside_85 : decode cX6_cutsBeside 85 = .ok (.if_icmp .le 7, 3) := by decide +kernel
theorem dX6_cutsBeside_88 : decode cX6_cutsBeside 88 = .ok (.iconst 1, 1) := by decide +kernel
theorem dX6_cutsBeside_89 : decode cX6_cutsBeside 89 = .ok (.goto 4, 3) := by decide +kernel
theorem dX6_cutsBeside_92 : decode cX6_cutsBeside 92 = .ok (.iconst 0, 1) := by decide +kernel
theorem dX6_cutsBeside_93 : decode cX6_cutsBeside 93 = .ok (.istore_n 1, 1) := by decide +kernel
theorem dX6_cutsBeside_94 : decode cX6_cutsBeside 94 = .ok (.iconst 0, 1) := by decide +kernel
theorem dX6_cutsBeside_95 : decode cX6_cutsBeside 95 = .ok (.istore_n 2, 1) := by decide +kernel
theorem dX6_cutsBeside_96 : decode cX6_cutsBeside 96 = .ok (.iload_n 2, 1) := by decide +kernel
theorem dX6_cutsBeside_97 : decode cX6_cutsBeside 97 = .ok (.aload_n 0, 1) := by decide +kernel
theorem dX6_cutsBeside_98 : decode cX6_cutsBeside 98 = .ok (.getfield 295, 3) := by decide +kernel
theorem dX6_cutsBeside_101 : decode cX6_cutsBeside 101 = .ok (.if_icmp .ge 123, 3) := by decide +kernel
theorem dX6_cutsBeside_104 : decode cX6_cutsBeside 104 = .ok (.iconst 0, 1) := by decide +kernel
theorem dX6_cutsBeside_105 : decode cX6_cutsBeside 105 = .ok (.istore_n 3, 1) := by decide +kernel
theorem dX6_cutsBeside_106 : decode cX6_cutsBeside 106 = .ok (.iconst 0, 1) := by decide +kernel
theorem dX6_cutsBeside_107 : decode cX6_cutsBeside 107 = .ok (.istore 4, 2) := by decide +kernel
theorem dX6_cutsBeside_109 : decode cX6_cutsBeside 109 = .ok (.iconst 0, 1) := by decide +kernel
theorem dX6_cutsBeside_110 : decode cX6_cutsBeside 110 = .ok (.istore 5, 2) := by decide +kernel
theorem dX6_cutsBeside_112 : decode cX6_cutsBeside 112 = .ok (.iload 5, 2) := by decide +kernel
theorem dX6_cutsBeside_114 : decode cX6_cutsBeside 114 = .ok (.bipush 12, 2) := by decide +kernel
theorem dX6_cutsBeside_116 : decode cX6_cutsBeside 116 = .ok (.if_icmp .ge 83, 3) := by decide +kernel
theorem dX6_cutsBeside_119 : decode cX6_cutsBeside 119 = .ok (.iload_n 3, 1) := by decide +kernel
theorem dX6_cutsBeside_120 : decode cX6_cutsBeside 120 = .ok (.ifCond .ne 29, 3) := by decide +kernel
theorem dX6_cutsBeside_123 : decode cX6_cutsBeside 123 = .ok (.aload_n 0, 1) := by decide +kernel
theorem dX6_cutsBeside_124 : decode cX6_cutsBeside 124 = .ok (.getfield 128, 3) := by decide +kernel
theorem dX6_cutsBeside_127 : decode cX6_cutsBeside 127 = .ok (.iload 5, 2) := by decide +kernel
theorem dX6_cutsBeside_129 : decode cX6_cutsBeside 129 = .ok (.iaload, 1) := by decide +kernel
theorem dX6_cutsBeside_130 : decode cX6_cutsBeside 130 = .ok (.aload_n 0, 1) := by decide +kernel
theorem dX6_cutsBeside_131 : decode cX6_cutsBeside 131 = .ok (.getfield 131, 3) := by decide +kernel
theorem dX6_cutsBeside_134 : decode cX6_cutsBeside 134 = .ok (.iload_n 2, 1) := by decide +kernel
theorem dX6_cutsBeside_135 : decode cX6_cutsBeside 135 = .ok (.iaload, 1) := by decide +kernel
theorem dX6_cutsBeside_136 : decode cX6_cutsBeside 136 = .ok (.if_icmp .ne 17, 3) := by decide +kernel
theorem dX6_cutsBeside_139 : decode cX6_cutsBeside 139 = .ok (.aload_n 0, 1) := by decide +kernel
theorem dX6_cutsBeside_140 : decode cX6_cutsBeside 140 = .ok (.getfield 122, 3) := by decide +kernel
theorem dX6_cutsBeside_143 : decode cX6_cutsBeside 143 = .ok (.iload 5, 2) := by decide +kernel
theorem dX6_cutsBeside_145 : decode cX6_cutsBeside 145 = .ok (.baload, 1) := by decide +kernel
theorem dX6_cutsBeside_146 : decode cX6_cutsBeside 146 = .ok (.ifCond .eq 7, 3) := by decide +kernel
theorem dX6_cutsBeside_149 : decode cX6_cutsBeside 149 = .ok (.iconst 1, 1) := by decide +kernel
theorem dX6_cutsBeside_150 : decode cX6_cutsBeside 150 = .ok (.goto 4, 3) := by decide +kernel
theorem dX6_cutsBeside_153 : decode cX6_cutsBeside 153 = .ok (.iconst 0, 1) := by decide +kernel
theorem dX6_cutsBeside_154 : decode cX6_cutsBeside 154 = .ok (.istore_n 3, 1) := by decide +kernel
theorem dX6_cutsBeside_155 : decode cX6_cutsBeside 155 = .ok (.iload 4, 2) := by decide +kernel
theorem dX6_cutsBeside_157 : decode cX6_cutsBeside 157 = .ok (.ifCond .ne 29, 3) := by decide +kernel
theorem dX6_cutsBeside_160 : decode cX6_cutsBeside 160 = .ok (.aload_n 0, 1) := by decide +kernel
theorem dX6_cutsBeside_161 : decode cX6_cutsBeside 161 = .ok (.getfield 128, 3) := by decide +kernel
theorem dX6_cutsBeside_164 : decode cX6_cutsBeside 164 = .ok (.iload 5, 2) := by decide +kernel
theorem dX6_cutsBeside_166 : decode cX6_cutsBeside 166 = .ok (.iaload, 1) := by decide +kernel
theorem dX6_cutsBeside_167 : decode cX6_cutsBeside 167 = .ok (.aload_n 0, 1) := by decide +kernel
theorem dX6_cutsBeside_168 : decode cX6_cutsBeside 168 = .ok (.getfield 131, 3) := by decide +kernel
theorem dX6_cutsBeside_171 : decode cX6_cutsBeside 171 = .ok (.iload_n 2, 1) := by decide +kernel
theorem dX6_cutsBeside_172 : decode cX6_cutsBeside 172 = .ok (.iaload, 1) := by decide +kernel
theorem dX6_cutsBeside_173 : decode cX6_cutsBeside 173 = .ok (.if_icmp .ne 17, 3) := by decide +kernel
theorem dX6_cutsBeside_176 : decode cX6_cutsBeside 176 = .ok (.aload_n 0, 1) := by decide +kernel
theorem dX6_cutsBeside_177 : decode cX6_cutsBeside 177 = .ok (.getfield 125, 3) := by decide +kernel
theorem dX6_cutsBeside_180 : decode cX6_cutsBeside 180 = .ok (.iload 5, 2) := by decide +kernel
theorem dX6_cutsBeside_182 : decode cX6_cutsBeside 182 = .ok (.baload, 1) := by decide +kernel
theorem dX6_cutsBeside_183 : decode cX6_cutsBeside 183 = .ok (.ifCond .eq 7, 3) := by decide +kernel
theorem dX6_cutsBeside_186 : decode cX6_cutsBeside 186 = .ok (.iconst 1, 1) := by decide +kernel
theorem dX6_cutsBeside_187 : decode cX6_cutsBeside 187 = .ok (.goto 4, 3) := by decide +kernel
theorem dX6_cutsBeside_190 : decode cX6_cutsBeside 190 = .ok (.iconst 0, 1) := by decide +kernel
theorem dX6_cutsBeside_191 : decode cX6_cutsBeside 191 = .ok (.istore 4, 2) := by decide +kernel
theorem dX6_cutsBeside_193 : decode cX6_cutsBeside 193 = .ok (.iinc 5 1, 3) := by decide +kernel
theorem dX6_cutsBeside_196 : decode cX6_cutsBeside 196 = .ok (.goto (-84), 3) := by decide +kernel
theorem dX6_cutsBeside_199 : decode cX6_cutsBeside 199 = .ok (.iload_n 1, 1) := by decide +kernel
theorem dX6_cutsBeside_200 : decode cX6_cutsBeside 200 = .ok (.ifCond .eq 16, 3) := by decide +kernel
theorem dX6_cutsBeside_203 : decode cX6_cutsBeside 203 = .ok (.iload_n 3, 1) := by decide +kernel
theorem dX6_cutsBeside_204 : decode cX6_cutsBeside 204 = .ok (.ifCond .eq 12, 3) := by decide +kernel
theorem dX6_cutsBeside_207 : decode cX6_cutsBeside 207 = .ok (.iload 4, 2) := by decide +kernel
theorem dX6_cutsBeside_209 : decode cX6_cutsBeside 209 = .ok (.ifCond .eq 7, 3) := by decide +kernel
theorem dX6_cutsBeside_212 : decode cX6_cutsBeside 212 = .ok (.iconst 1, 1) := by decide +kernel
theorem dX6_cutsBeside_213 : decode cX6_cutsBeside 213 = .ok (.goto 4, 3) := by decide +kernel
theorem dX6_cutsBeside_216 : decode cX6_cutsBeside 216 = .ok (.iconst 0, 1) := by decide +kernel
theorem dX6_cutsBeside_217 : decode cX6_cutsBeside 217 = .ok (.istore_n 1, 1) := by decide +kernel
theorem dX6_cutsBeside_218 : decode cX6_cutsBeside 218 = .ok (.iinc 2 1, 3) := by decide +kernel
theorem dX6_cutsBeside_221 : decode cX6_cutsBeside 221 = .ok (.goto (-125), 3) := by decide +kernel
theorem dX6_cutsBeside_224 : decode cX6_cutsBeside 224 = .ok (.iload_n 1, 1) := by decide +kernel
theorem dX6_cutsBeside_225 : decode cX6_cutsBeside 225 = .ok (.ireturn, 1) := by decide +kernel
theorem dX6_goesIn_0 : decode cX6_goesIn 0 = .ok (.iconst 0, 1) := by decide +kernel
theorem dX6_goesIn_1 : decode cX6_goesIn 1 = .ok (.istore_n 2, 1) := by decide +kernel
theorem dX6_goesIn_2 : decode cX6_goesIn 2 = .ok (.iconst 1, 1) := by decide +kernel
theorem dX6_goesIn_3 : decode cX6_goesIn 3 = .ok (.istore_n 3, 1) := by decide +kernel
theorem dX6_goesIn_4 : decode cX6_goesIn 4 = .ok (.iconst 0, 1) := by decide +kernel
theorem dX6_goesIn_5 : decode cX6_goesIn 5 = .ok (.istore 4, 2) := by decide +kernel
theorem dX6_goesIn_7 : decode cX6_goesIn 7 = .ok (.iconst 1, 1) := by decide +kernel
theorem dX6_goesIn_8 : decode cX6_goesIn 8 = .ok (.istore 5, 2) := by decide +kernel
theorem dX6_goesIn_10 : decode cX6_goesIn 10 = .ok (.iconst 0, 1) := by decide +kernel
theorem dX6_goesIn_11 : decode cX6_goesIn 11 = .ok (.istore 6, 2) := by decide +kernel
theorem dX6_goesIn_13 : decode cX6_goesIn 13 = .ok (.iconst 0, 1) := by decide +kernel
theorem dX6_goesIn_14 : decode cX6_goesIn 14 = .ok (.istore 7, 2) := by decide +kernel
theorem dX6_goesIn_16 : decode cX6_goesIn 16 = .ok (.iload 7, 2) := by decide +kernel
theorem dX6_goesIn_18 : decode cX6_goesIn 18 = .ok (.bipush 12, 2) := by decide +kernel
theorem dX6_goesIn_20 : decode cX6_goesIn 20 = .ok (.if_icmp .ge 193, 3) := by decide +kernel
theorem dX6_goesIn_23 : decode cX6_goesIn 23 = .ok (.aload_n 0, 1) := by decide +kernel
theorem dX6_goesIn_24 : decode cX6_goesIn 24 = .ok (.getfield 116, 3) := by decide +kernel
theorem dX6_goesIn_27 : decode cX6_goesIn 27 = .ok (.bipush 12, 2) := by decide +kernel
theorem dX6_goesIn_29 : decode cX6_goesIn 29 = .ok (.iload_n 1, 1) := by decide +kernel
theorem dX6_goesIn_30 : decode cX6_goesIn 30 = .ok (.imul, 1) := by decide +kernel
theorem dX6_goesIn_31 : decode cX6_goesIn 31 = .ok (.iload 7, 2) := by decide +kernel
theorem dX6_goesIn_33 : decode cX6_goesIn 33 = .ok (.iadd, 1) := by decide +kernel
theorem dX6_goesIn_34 : decode cX6_goesIn 34 = .ok (.baload, 1) := by decide +kernel
theorem dX6_goesIn_35 : decode cX6_goesIn 35 = .ok (.istore 8, 2) := by decide +kernel
theorem dX6_goesIn_37 : decode cX6_goesIn 37 = .ok (.aload_n 0, 1) := by decide +kernel
theorem dX6_goesIn_38 : decode cX6_goesIn 38 = .ok (.getfield 116, 3) := by decide +kernel
theorem dX6_goesIn_41 : decode cX6_goesIn 41 = .ok (.bipush 12, 2) := by decide +kernel
theorem dX6_goesIn_43 : decode cX6_goesIn 43 = .ok (.iload 7, 2) := by decide +kernel
theorem dX6_goesIn_45 : decode cX6_goesIn 45 = .ok (.imul, 1) := by decide +kernel
theorem dX6_goesIn_46 : decode cX6_goesIn 46 = .ok (.iload_n 1, 1) := by decide +kernel
theorem dX6_goesIn_47 : decode cX6_goesIn 47 = .ok (.iadd, 1) := by decide +kernel
theorem dX6_goesIn_48 : decode cX6_goesIn 48 = .ok (.baload, 1) := by decide +kernel
theorem dX6_goesIn_49 : decode cX6_goesIn 49 = .ok (.istore 9, 2) := by decide +kernel
theorem dX6_goesIn_51 : decode cX6_goesIn 51 = .ok (.iload 6, 2) := by decide +kernel
theorem dX6_goesIn_53 : decode cX6_goesIn 53 = .ok (.ifCond .ne 43, 3) := by decide +kernel
theorem dX6_goesIn_56 : decode cX6_goesIn 56 = .ok (.aload_n 0, 1) := by decide +kernel
theorem dX6_goesIn_57 : decode cX6_goesIn 57 = .ok (.getfield 140, 3) := by decide +kernel
theorem dX6_goesIn_60 : decode cX6_goesIn 60 = .ok (.iload 7, 2) := by decide +kernel
theorem dX6_goesIn_62 : decode cX6_goesIn 62 = .ok (.baload, 1) := by decide +kernel
theorem dX6_goesIn_63 : decode cX6_goesIn 63 = .ok (.ifCond .eq 37, 3) := by decide +kernel
theorem dX6_goesIn_66 : decode cX6_goesIn 66 = .ok (.iload 8, 2) := by decide +kernel
theorem dX6_goesIn_68 : decode cX6_goesIn 68 = .ok (.ifCond .eq 13, 3) := by decide +kernel
theorem dX6_goesIn_71 : decode cX6_goesIn 71 = .ok (.aload_n 0, 1) := by decide +kernel
theorem dX6_goesIn_72 : decode cX6_goesIn 72 = .ok (.getfield 125, 3) := by decide +kernel
theorem dX6_goesIn_75 : decode cX6_goesIn 75 = .ok (.iload 7, 2) := by decide +kernel
theorem dX6_goesIn_77 : decode cX6_goesIn 77 = .ok (.baload, 1) := by decide +kernel
theorem dX6_goesIn_78 : decode cX6_goesIn 78 = .ok (.ifCond .eq 18, 3) := by decide +kernel
theorem dX6_goesIn_81 : decode cX6_goesIn 81 = .ok (.iload 9, 2) := by decide +kernel
theorem dX6_goesIn_83 : decode cX6_goesIn 83 = .ok (.ifCond .eq 17, 3) := by decide +kernel
theorem dX6_goesIn_86 : decode cX6_goesIn 86 = .ok (.aload_n 0, 1) := by decide +kernel
theorem dX6_goesIn_87 : decode cX6_goesIn 87 = .ok (.getfield 122, 3) := by decide +kernel
theorem dX6_goesIn_90 : decode cX6_goesIn 90 = .ok (.iload 7, 2) := by decide +kernel
theorem dX6_goesIn_92 : decode cX6_goesIn 92 = .ok (.baload, 1) := by decide +kernel
theorem dX6_goesIn_93 : decode cX6_goesIn 93 = .ok (.ifCond .ne 7, 3) := by decide +kernel
theorem dX6_goesIn_96 : decode cX6_goesIn 96 = .ok (.iconst 1, 1) := by decide +kernel
theorem dX6_goesIn_97 : decode cX6_goesIn 97 = .ok (.goto 4, 3) := by decide +kernel
theorem dX6_goesIn_100 : decode cX6_goesIn 100 = .ok (.iconst 0, 1) := by decide +kernel
theorem dX6_goesIn_101 : decode cX6_goesIn 101 = .ok (.istore 6, 2) := by decide +kernel
theorem dX6_goesIn_103 : decode cX6_goesIn 103 = .ok (.iload_n 2, 1) := by decide +kernel
theorem dX6_goesIn_104 : decode cX6_goesIn 104 = .ok (.ifCond .ne 18, 3) := by decide +kernel
theorem dX6_goesIn_107 : decode cX6_goesIn 107 = .ok (.aload_n 0, 1) := by decide +kernel
theorem dX6_goesIn_108 : decode cX6_goesIn 108 = .ok (.getfield 125, 3) := by decide +kernel
theorem dX6_goesIn_111 : decode cX6_goesIn 111 = .ok (.iload 7, 2) := by decide +kernel
theorem dX6_goesIn_113 : decode cX6_goesIn 113 = .ok (.baload, 1) := by decide +kernel
theorem dX6_goesIn_114 : decode cX6_goesIn 114 = .ok (.ifCond .eq 12, 3) := by decide +kernel
theorem dX6_goesIn_117 : decode cX6_goesIn 117 = .ok (.iload 8, 2) := by decide +kernel
theorem dX6_goesIn_119 : decode cX6_goesIn 119 = .ok (.ifCond .eq 7, 3) := by decide +kernel
theorem dX6_goesIn_122 : decode cX6_goesIn 122 = .ok (.iconst 1, 1) := by decide +kernel
theorem dX6_goesIn_123 : decode cX6_goesIn 123 = .ok (.goto 4, 3) := by decide +kernel
theorem dX6_goesIn_126 : decode cX6_goesIn 126 = .ok (.iconst 0, 1) := by decide +kernel
theorem dX6_goesIn_127 : decode cX6_goesIn 127 = .ok (.istore_n 2, 1) := by decide +kernel
theorem dX6_goesIn_128 : decode cX6_goesIn 128 = .ok (.iload_n 3, 1) := by decide +kernel
theorem dX6_goesIn_129 : decode cX6_goesIn 129 = .ok (.ifCond .eq 22, 3) := by decide +kernel
theorem dX6_goesIn_132 : decode cX6_goesIn 132 = .ok (.aload_n 0, 1) := by decide +kernel
theorem dX6_goesIn_133 : decode cX6_goesIn 133 = .ok (.getfield 125, 3) := by decide +kernel
theorem dX6_goesIn_136 : decode cX6_goesIn 136 = .ok (.iload 7, 2) := by decide +kernel
theorem dX6_goesIn_138 : decode cX6_goesIn 138 = .ok (.baload, 1) := by decide +kernel
theorem dX6_goesIn_139 : decode cX6_goesIn 139 = .ok (.ifCond .eq 8, 3) := by decide +kernel
theorem dX6_goesIn_142 : decode cX6_goesIn 142 = .ok (.iload 8, 2) := by decide +kernel
theorem dX6_goesIn_144 : decode cX6_goesIn 144 = .ok (.ifCond .eq 7, 3) := by decide +kernel
theorem dX6_goesIn_147 : decode cX6_goesIn 147 = .ok (.iconst 1, 1) := by decide +kernel
theorem dX6_goesIn_148 : decode cX6_goesIn 148 = .ok (.goto 4, 3) := by decide +kernel
theorem dX6_goesIn_151 : decode cX6_goesIn 151 = .ok (.iconst 0, 1) := by decide +kernel
theorem dX6_goesIn_152 : decode cX6_goesIn 152 = .ok (.istore_n 3, 1) := by decide +kernel
theorem dX6_goesIn_153 : decode cX6_goesIn 153 = .ok (.iload 4, 2) := by decide +kernel
theorem dX6_goesIn_155 : decode cX6_goesIn 155 = .ok (.ifCond .ne 18, 3) := by decide +kernel
theorem dX6_goesIn_158 : decode cX6_goesIn 158 = .ok (.aload_n 0, 1) := by decide +kernel
theorem dX6_goesIn_159 : decode cX6_goesIn 159 = .ok (.getfield 122, 3) := by decide +kernel
theorem dX6_goesIn_162 : decode cX6_goesIn 162 = .ok (.iload 7, 2) := by decide +kernel
theorem dX6_goesIn_164 : decode cX6_goesIn 164 = .ok (.baload, 1) := by decide +kernel
theorem dX6_goesIn_165 : decode cX6_goesIn 165 = .ok (.ifCond .eq 12, 3) := by decide +kernel
theorem dX6_goesIn_168 : decode cX6_goesIn 168 = .ok (.iload 9, 2) := by decide +kernel
theorem dX6_goesIn_170 : decode cX6_goesIn 170 = .ok (.ifCond .eq 7, 3) := by decide +kernel
theorem dX6_goesIn_173 : decode cX6_goesIn 173 = .ok (.iconst 1, 1) := by decide +kernel
theorem dX6_goesIn_174 : decode cX6_goesIn 174 = .ok (.goto 4, 3) := by decide +kernel
theorem dX6_goesIn_177 : decode cX6_goesIn 177 = .ok (.iconst 0, 1) := by decide +kernel
theorem dX6_goesIn_178 : decode cX6_goesIn 178 = .ok (.istore 4, 2) := by decide +kernel
theorem dX6_goesIn_180 : decode cX6_goesIn 180 = .ok (.iload 5, 2) := by decide +kernel
theorem dX6_goesIn_182 : decode cX6_goesIn 182 = .ok (.ifCond .eq 22, 3) := by decide +kernel
theorem dX6_goesIn_185 : decode cX6_goesIn 185 = .ok (.aload_n 0, 1) := by decide +kernel
theorem dX6_goesIn_186 : decode cX6_goesIn 186 = .ok (.getfield 122, 3) := by decide +kernel
theorem dX6_goesIn_189 : decode cX6_goesIn 189 = .ok (.iload 7, 2) := by decide +kernel
theorem dX6_goesIn_191 : decode cX6_goesIn 191 = .ok (.baload, 1) := by decide +kernel
theorem dX6_goesIn_192 : decode cX6_goesIn 192 = .ok (.ifCond .eq 8, 3) := by decide +kernel
theorem dX6_goesIn_195 : decode cX6_goesIn 195 = .ok (.iload 9, 2) := by decide +kernel
theorem dX6_goesIn_197 : decode cX6_goesIn 197 = .ok (.ifCond .eq 7, 3) := by decide +kernel
theorem dX6_goesIn_200 : decode cX6_goesIn 200 = .ok (.iconst 1, 1) := by decide +kernel
theorem dX6_goesIn_201 : decode cX6_goesIn 201 = .ok (.goto 4, 3) := by decide +kernel
theorem dX6_goesIn_204 : decode cX6_goesIn 204 = .ok (.iconst 0, 1) := by decide +kernel
theorem dX6_goesIn_205 : decode cX6_goesIn 205 = .ok (.istore 5, 2) := by decide +kernel
theorem dX6_goesIn_207 : decode cX6_goesIn 207 = .ok (.iinc 7 1, 3) := by decide +kernel
theorem dX6_goesIn_210 : decode cX6_goesIn 210 = .ok (.goto (-194), 3) := by decide +kernel
theorem dX6_goesIn_213 : decode cX6_goesIn 213 = .ok (.iload 6, 2) := by decide +kernel
theorem dX6_goesIn_215 : decode cX6_goesIn 215 = .ok (.ifCond .ne 21, 3) := by decide +kernel
theorem dX6_goesIn_218 : decode cX6_goesIn 218 = .ok (.iload_n 2, 1) := by decide +kernel
theorem dX6_goesIn_219 : decode cX6_goesIn 219 = .ok (.ifCond .eq 7, 3) := by decide +kernel
theorem dX6_goesIn_222 : decode cX6_goesIn 222 = .ok (.iload_n 3, 1) := by decide +kernel
theorem dX6_goesIn_223 : decode cX6_goesIn 223 = .ok (.ifCond .eq 13, 3) := by decide +kernel
theorem dX6_goesIn_226 : decode cX6_goesIn 226 = .ok (.iload 4, 2) := by decide +kernel
theorem dX6_goesIn_228 : decode cX6_goesIn 228 = .ok (.ifCond .eq 12, 3) := by decide +kernel
theorem dX6_goesIn_231 : decode cX6_goesIn 231 = .ok (.iload 5, 2) := by decide +kernel
theorem dX6_goesIn_233 : decode cX6_goesIn 233 = .ok (.ifCond .ne 7, 3) := by decide +kernel
theorem dX6_goesIn_236 : decode cX6_goesIn 236 = .ok (.iconst 1, 1) := by decide +kernel
theorem dX6_goesIn_237 : decode cX6_goesIn 237 = .ok (.goto 4, 3) := by decide +kernel
theorem dX6_goesIn_240 : decode cX6_goesIn 240 = .ok (.iconst 0, 1) := by decide +kernel
theorem dX6_goesIn_241 : decode cX6_goesIn 241 = .ok (.ireturn, 1) := by decide +kernel
theorem dX6_cutsLoop_0 : decode cX6_cutsLoop 0 = .ok (.iconst 0, 1) := by decide +kernel
theorem dX6_cutsLoop_1 : decode cX6_cutsLoop 1 = .ok (.istore_n 1, 1) := by decide +kernel
theorem dX6_cutsLoop_2 : decode cX6_cutsLoop 2 = .ok (.iload_n 1, 1) := by decide +kernel
theorem dX6_cutsLoop_3 : decode cX6_cutsLoop 3 = .ok (.sipush 144, 3) := by decide +kernel
theorem dX6_cutsLoop_6 : decode cX6_cutsLoop 6 = .ok (.if_icmp .ge 21, 3) := by decide +kernel
theorem dX6_cutsLoop_9 : decode cX6_cutsLoop 9 = .ok (.aload_n 0, 1) := by decide +kernel
theorem dX6_cutsLoop_10 : decode cX6_cutsLoop 10 = .ok (.getfield 134, 3) := by decide +kernel
theorem dX6_cutsLoop_13 : decode cX6_cutsLoop 13 = .ok (.iload_n 1, 1) := by decide +kernel
theorem dX6_cutsLoop_14 : decode cX6_cutsLoop 14 = .ok (.aload_n 0, 1) := by decide +kernel
theorem dX6_cutsLoop_15 : decode cX6_cutsLoop 15 = .ok (.getfield 116, 3) := by decide +kernel
theorem dX6_cutsLoop_18 : decode cX6_cutsLoop 18 = .ok (.iload_n 1, 1) := by decide +kernel
theorem dX6_cutsLoop_19 : decode cX6_cutsLoop 19 = .ok (.baload, 1) := by decide +kernel
theorem dX6_cutsLoop_20 : decode cX6_cutsLoop 20 = .ok (.bastore, 1) := by decide +kernel
theorem dX6_cutsLoop_21 : decode cX6_cutsLoop 21 = .ok (.iinc 1 1, 3) := by decide +kernel
theorem dX6_cutsLoop_24 : decode cX6_cutsLoop 24 = .ok (.goto (-22), 3) := by decide +kernel
theorem dX6_cutsLoop_27 : decode cX6_cutsLoop 27 = .ok (.iconst 0, 1) := by decide +kernel
theorem dX6_cutsLoop_28 : decode cX6_cutsLoop 28 = .ok (.istore_n 1, 1) := by decide +kernel
theorem dX6_cutsLoop_29 : decode cX6_cutsLoop 29 = .ok (.iload_n 1, 1) := by decide +kernel
theorem dX6_cutsLoop_30 : decode cX6_cutsLoop 30 = .ok (.bipush 12, 2) := by decide +kernel
theorem dX6_cutsLoop_32 : decode cX6_cutsLoop 32 = .ok (.if_icmp .ge 67, 3) := by decide +kernel
theorem dX6_cutsLoop_35 : decode cX6_cutsLoop 35 = .ok (.aload_n 0, 1) := by decide +kernel
theorem dX6_cutsLoop_36 : decode cX6_cutsLoop 36 = .ok (.getfield 140, 3) := by decide +kernel
theorem dX6_cutsLoop_39 : decode cX6_cutsLoop 39 = .ok (.iload_n 1, 1) := by decide +kernel
theorem dX6_cutsLoop_40 : decode cX6_cutsLoop 40 = .ok (.aload_n 0, 1) := by decide +kernel
theorem dX6_cutsLoop_41 : decode cX6_cutsLoop 41 = .ok (.getfield 122, 3) := by decide +kernel
theorem dX6_cutsLoop_44 : decode cX6_cutsLoop 44 = .ok (.iload_n 1, 1) := by decide +kernel
theorem dX6_cutsLoop_45 : decode cX6_cutsLoop 45 = .ok (.baload, 1) := by decide +kernel
theorem dX6_cutsLoop_46 : decode cX6_cutsLoop 46 = .ok (.ifCond .ne 12, 3) := by decide +kernel
theorem dX6_cutsLoop_49 : decode cX6_cutsLoop 49 = .ok (.aload_n 0, 1) := by decide +kernel
theorem dX6_cutsLoop_50 : decode cX6_cutsLoop 50 = .ok (.getfield 125, 3) := by decide +kernel
theorem dX6_cutsLoop_53 : decode cX6_cutsLoop 53 = .ok (.iload_n 1, 1) := by decide +kernel
theorem dX6_cutsLoop_54 : decode cX6_cutsLoop 54 = .ok (.baload, 1) := by decide +kernel
theorem dX6_cutsLoop_55 : decode cX6_cutsLoop 55 = .ok (.ifCond .eq 7, 3) := by decide +kernel
theorem dX6_cutsLoop_58 : decode cX6_cutsLoop 58 = .ok (.iconst 1, 1) := by decide +kernel
theorem dX6_cutsLoop_59 : decode cX6_cutsLoop 59 = .ok (.goto 4, 3) := by decide +kernel
theorem dX6_cutsLoop_62 : decode cX6_cutsLoop 62 = .ok (.iconst 0, 1) := by decide +kernel
theorem dX6_cutsLoop_63 : decode cX6_cutsLoop 63 = .ok (.bastore, 1) := by decide +kernel
theorem dX6_cutsLoop_64 : decode cX6_cutsLoop 64 = .ok (.aload_n 0, 1) := by decide +kernel
theorem dX6_cutsLoop_65 : decode cX6_cutsLoop 65 = .ok (.getfield 143, 3) := by decide +kernel
theorem dX6_cutsLoop_68 : decode cX6_cutsLoop 68 = .ok (.iload_n 1, 1) := by decide +kernel
theorem dX6_cutsLoop_69 : decode cX6_cutsLoop 69 = .ok (.aload_n 0, 1) := by decide +kernel
theorem dX6_cutsLoop_70 : decode cX6_cutsLoop 70 = .ok (.getfield 119, 3) := by decide +kernel
theorem dX6_cutsLoop_73 : decode cX6_cutsLoop 73 = .ok (.iload_n 1, 1) := by decide +kernel
theorem dX6_cutsLoop_74 : decode cX6_cutsLoop 74 = .ok (.baload, 1) := by decide +kernel
theorem dX6_cutsLoop_75 : decode cX6_cutsLoop 75 = .ok (.ifCond .eq 16, 3) := by decide +kernel
theorem dX6_cutsLoop_78 : decode cX6_cutsLoop 78 = .ok (.aload_n 0, 1) := by decide +kernel
theorem dX6_cutsLoop_79 : decode cX6_cutsLoop 79 = .ok (.getfield 140, 3) := by decide +kernel
theorem dX6_cutsLoop_82 : decode cX6_cutsLoop 82 = .ok (.iload_n 1, 1) := by decide +kernel
theorem dX6_cutsLoop_83 : decode cX6_cutsLoop 83 = .ok (.baload, 1) := by decide +kernel
theorem dX6_cutsLoop_84 : decode cX6_cutsLoop 84 = .ok (.ifCond .ne 7, 3) := by decide +kernel
theorem dX6_cutsLoop_87 : decode cX6_cutsLoop 87 = .ok (.iconst 1, 1) := by decide +kernel
theorem dX6_cutsLoop_88 : decode cX6_cutsLoop 88 = .ok (.goto 4, 3) := by decide +kernel
theorem dX6_cutsLoop_91 : decode cX6_cutsLoop 91 = .ok (.iconst 0, 1) := by decide +kernel
theorem dX6_cutsLoop_92 : decode cX6_cutsLoop 92 = .ok (.bastore, 1) := by decide +kernel
theorem dX6_cutsLoop_93 : decode cX6_cutsLoop 93 = .ok (.iinc 1 1, 3) := by decide +kernel
theorem dX6_cutsLoop_96 : decode cX6_cutsLoop 96 = .ok (.goto (-67), 3) := by decide +kernel
theorem dX6_cutsLoop_99 : decode cX6_cutsLoop 99 = .ok (.aload_n 0, 1) := by decide +kernel
theorem dX6_cutsLoop_100 : decode cX6_cutsLoop 100 = .ok (.aload_n 0, 1) := by decide +kernel
theorem dX6_cutsLoop_101 : decode cX6_cutsLoop 101 = .ok (.getfield 143, 3) := by decide +kernel
theorem dX6_cutsLoop_104 : decode cX6_cutsLoop 104 = .ok (.invokevirtual 305, 3) := by decide +kernel
theorem dX6_cutsLoop_107 : decode cX6_cutsLoop 107 = .ok (.iconst 1, 1) := by decide +kernel
theorem dX6_cutsLoop_108 : decode cX6_cutsLoop 108 = .ok (.istore_n 1, 1) := by decide +kernel
theorem dX6_cutsLoop_109 : decode cX6_cutsLoop 109 = .ok (.iload_n 1, 1) := by decide +kernel
theorem dX6_cutsLoop_110 : decode cX6_cutsLoop 110 = .ok (.ifCond .eq 169, 3) := by decide +kernel
theorem dX6_cutsLoop_113 : decode cX6_cutsLoop 113 = .ok (.iconst 0, 1) := by decide +kernel
theorem dX6_cutsLoop_114 : decode cX6_cutsLoop 114 = .ok (.istore_n 1, 1) := by decide +kernel
theorem dX6_cutsLoop_115 : decode cX6_cutsLoop 115 = .ok (.iconst 0, 1) := by decide +kernel
theorem dX6_cutsLoop_116 : decode cX6_cutsLoop 116 = .ok (.istore_n 2, 1) := by decide +kernel
theorem dX6_cutsLoop_117 : decode cX6_cutsLoop 117 = .ok (.iload_n 2, 1) := by decide +kernel
theorem dX6_cutsLoop_118 : decode cX6_cutsLoop 118 = .ok (.aload_n 0, 1) := by decide +kernel
theorem dX6_cutsLoop_119 : decode cX6_cutsLoop 119 = .ok (.getfield 295, 3) := by decide +kernel
theorem dX6_cutsLoop_122 : decode cX6_cutsLoop 122 = .ok (.if_icmp .ge 150, 3) := by decide +kernel
theorem dX6_cutsLoop_125 : decode cX6_cutsLoop 125 = .ok (.iload_n 1, 1) := by decide +kernel
theorem dX6_cutsLoop_126 : decode cX6_cutsLoop 126 = .ok (.ifCond .ne 146, 3) := by decide +kernel
theorem dX6_cutsLoop_129 : decode cX6_cutsLoop 129 = .ok (.iconst 0, 1) := by decide +kernel
theorem dX6_cutsLoop_130 : decode cX6_cutsLoop 130 = .ok (.istore_n 3, 1) := by decide +kernel
theorem dX6_cutsLoop_131 : decode cX6_cutsLoop 131 = .ok (.iload_n 3, 1) := by decide +kernel
theorem dX6_cutsLoop_132 : decode cX6_cutsLoop 132 = .ok (.bipush 12, 2) := by decide +kernel
theorem dX6_cutsLoop_134 : decode cX6_cutsLoop 134 = .ok (.if_icmp .ge 42, 3) := by decide +kernel
theorem dX6_cutsLoop_137 : decode cX6_cutsLoop 137 = .ok (.iload_n 1, 1) := by decide +kernel
theorem dX6_cutsLoop_138 : decode cX6_cutsLoop 138 = .ok (.ifCond .ne 38, 3) := by decide +kernel
theorem dX6_cutsLoop_141 : decode cX6_cutsLoop 141 = .ok (.aload_n 0, 1) := by decide +kernel
theorem dX6_cutsLoop_142 : decode cX6_cutsLoop 142 = .ok (.getfield 128, 3) := by decide +kernel
theorem dX6_cutsLoop_145 : decode cX6_cutsLoop 145 = .ok (.iload_n 3, 1) := by decide +kernel
theorem dX6_cutsLoop_146 : decode cX6_cutsLoop 146 = .ok (.iaload, 1) := by decide +kernel
theorem dX6_cutsLoop_147 : decode cX6_cutsLoop 147 = .ok (.aload_n 0, 1) := by decide +kernel
theorem dX6_cutsLoop_148 : decode cX6_cutsLoop 148 = .ok (.getfield 131, 3) := by decide +kernel
theorem dX6_cutsLoop_151 : decode cX6_cutsLoop 151 = .ok (.iload_n 2, 1) := by decide +kernel
theorem dX6_cutsLoop_152 : decode cX6_cutsLoop 152 = .ok (.iaload, 1) := by decide +kernel
theorem dX6_cutsLoop_153 : decode cX6_cutsLoop 153 = .ok (.if_icmp .ne 15, 3) := by decide +kernel
theorem dX6_cutsLoop_156 : decode cX6_cutsLoop 156 = .ok (.aload_n 0, 1) := by decide +kernel
theorem dX6_cutsLoop_157 : decode cX6_cutsLoop 157 = .ok (.iload_n 3, 1) := by decide +kernel
theorem dX6_cutsLoop_158 : decode cX6_cutsLoop 158 = .ok (.invokevirtual 318, 3) := by decide +kernel
theorem dX6_cutsLoop_161 : decode cX6_cutsLoop 161 = .ok (.ifCond .eq 7, 3) := by decide +kernel
theorem dX6_cutsLoop_164 : decode cX6_cutsLoop 164 = .ok (.iconst 1, 1) := by decide +kernel
theorem dX6_cutsLoop_165 : decode cX6_cutsLoop 165 = .ok (.goto 4, 3) := by decide +kernel
theorem dX6_cutsLoop_168 : decode cX6_cutsLoop 168 = .ok (.iconst 0, 1) := by decide +kernel
theorem dX6_cutsLoop_169 : decode cX6_cutsLoop 169 = .ok (.istore_n 1, 1) := by decide +kernel
theorem dX6_cutsLoop_170 : decode cX6_cutsLoop 170 = .ok (.iinc 3 1, 3) := by decide +kernel
theorem dX6_cutsLoop_173 : decode cX6_cutsLoop 173 = .ok (.goto (-42), 3) := by decide +kernel
theorem dX6_cutsLoop_176 : decode cX6_cutsLoop 176 = .ok (.iload_n 1, 1) := by decide +kernel
theorem dX6_cutsLoop_177 : decode cX6_cutsLoop 177 = .ok (.ifCond .eq 89, 3) := by decide +kernel
theorem dX6_cutsLoop_180 : decode cX6_cutsLoop 180 = .ok (.aload_n 0, 1) := by decide +kernel
theorem dX6_cutsLoop_181 : decode cX6_cutsLoop 181 = .ok (.getfield 131, 3) := by decide +kernel
theorem dX6_cutsLoop_184 : decode cX6_cutsLoop 184 = .ok (.iload_n 2, 1) := by decide +kernel
theorem dX6_cutsLoop_185 : decode cX6_cutsLoop 185 = .ok (.iaload, 1) := by decide +kernel
theorem dX6_cutsLoop_186 : decode cX6_cutsLoop 186 = .ok (.istore_n 3, 1) := by decide +kernel
theorem dX6_cutsLoop_187 : decode cX6_cutsLoop 187 = .ok (.iconst 0, 1) := by decide +kernel
theorem dX6_cutsLoop_188 : decode cX6_cutsLoop 188 = .ok (.istore 4, 2) := by decide +kernel
theorem dX6_cutsLoop_190 : decode cX6_cutsLoop 190 = .ok (.iload 4, 2) := by decide +kernel
theorem dX6_cutsLoop_192 : decode cX6_cutsLoop 192 = .ok (.bipush 12, 2) := by decide +kernel
theorem dX6_cutsLoop_194 : decode cX6_cutsLoop 194 = .ok (.if_icmp .ge 72, 3) := by decide +kernel
theorem dX6_cutsLoop_197 : decode cX6_cutsLoop 197 = .ok (.aload_n 0, 1) := by decide +kernel
theorem dX6_cutsLoop_198 : decode cX6_cutsLoop 198 = .ok (.getfield 140, 3) := by decide +kernel
theorem dX6_cutsLoop_201 : decode cX6_cutsLoop 201 = .ok (.iload 4, 2) := by decide +kernel
theorem dX6_cutsLoop_203 : decode cX6_cutsLoop 203 = .ok (.aload_n 0, 1) := by decide +kernel
theorem dX6_cutsLoop_204 : decode cX6_cutsLoop 204 = .ok (.getfield 140, 3) := by decide +kernel
theorem dX6_cutsLoop_207 : decode cX6_cutsLoop 207 = .ok (.iload 4, 2) := by decide +kernel
theorem dX6_cutsLoop_209 : decode cX6_cutsLoop 209 = .ok (.baload, 1) := by decide +kernel
theorem dX6_cutsLoop_210 : decode cX6_cutsLoop 210 = .ok (.ifCond .ne 14, 3) := by decide +kernel
theorem dX6_cutsLoop_213 : decode cX6_cutsLoop 213 = .ok (.aload_n 0, 1) := by decide +kernel
theorem dX6_cutsLoop_214 : decode cX6_cutsLoop 214 = .ok (.getfield 128, 3) := by decide +kernel
theorem dX6_cutsLoop_217 : decode cX6_cutsLoop 217 = .ok (.iload 4, 2) := by decide +kernel
theorem dX6_cutsLoop_219 : decode cX6_cutsLoop 219 = .ok (.iaload, 1) := by decide +kernel
theorem dX6_cutsLoop_220 : decode cX6_cutsLoop 220 = .ok (.iload_n 3, 1) := by decide +kernel
theorem dX6_cutsLoop_221 : decode cX6_cutsLoop 221 = .ok (.if_icmp .ne 7, 3) := by decide +kernel
theorem dX6_cutsLoop_224 : decode cX6_cutsLoop 224 = .ok (.iconst 1, 1) := by decide +kernel
theorem dX6_cutsLoop_225 : decode cX6_cutsLoop 225 = .ok (.goto 4, 3) := by decide +kernel
theorem dX6_cutsLoop_228 : decode cX6_cutsLoop 228 = .ok (.iconst 0, 1) := by decide +kernel
theorem dX6_cutsLoop_229 : decode cX6_cutsLoop 229 = .ok (.bastore, 1) := by decide +kernel
theorem dX6_cutsLoop_230 : decode cX6_cutsLoop 230 = .ok (.aload_n 0, 1) := by decide +kernel
theorem dX6_cutsLoop_231 : decode cX6_cutsLoop 231 = .ok (.getfield 128, 3) := by decide +kernel
theorem dX6_cutsLoop_234 : decode cX6_cutsLoop 234 = .ok (.iload 4, 2) := by decide +kernel
theorem dX6_cutsLoop_236 : decode cX6_cutsLoop 236 = .ok (.aload_n 0, 1) := by decide +kernel
theorem dX6_cutsLoop_237 : decode cX6_cutsLoop 237 = .ok (.getfield 128, 3) := by decide +kernel
theorem dX6_cutsLoop_240 : decode cX6_cutsLoop 240 = .ok (.iload 4, 2) := by decide +kernel
theorem dX6_cutsLoop_242 : decode cX6_cutsLoop 242 = .ok (.iaload, 1) := by decide +kernel
theorem dX6_cutsLoop_243 : decode cX6_cutsLoop 243 = .ok (.iload_n 3, 1) := by decide +kernel
theorem dX6_cutsLoop_244 : decode cX6_cutsLoop 244 = .ok (.if_icmp .ne 8, 3) := by decide +kernel
theorem dX6_cutsLoop_247 : decode cX6_cutsLoop 247 = .ok (.bipush (-3), 2) := by decide +kernel
theorem dX6_cutsLoop_249 : decode cX6_cutsLoop 249 = .ok (.goto 10, 3) := by decide +kernel
theorem dX6_cutsLoop_252 : decode cX6_cutsLoop 252 = .ok (.aload_n 0, 1) := by decide +kernel
theorem dX6_cutsLoop_253 : decode cX6_cutsLoop 253 = .ok (.getfield 128, 3) := by decide +kernel
theorem dX6_cutsLoop_256 : decode cX6_cutsLoop 256 = .ok (.iload 4, 2) := by decide +kernel
theorem dX6_cutsLoop_258 : decode cX6_cutsLoop 258 = .ok (.iaload, 1) := by decide +kernel
theorem dX6_cutsLoop_259 : decode cX6_cutsLoop 259 = .ok (.iastore, 1) := by decide +kernel
theorem dX6_cutsLoop_260 : decode cX6_cutsLoop 260 = .ok (.iinc 4 1, 3) := by decide +kernel
theorem dX6_cutsLoop_263 : decode cX6_cutsLoop 263 = .ok (.goto (-73), 3) := by decide +kernel
theorem dX6_cutsLoop_266 : decode cX6_cutsLoop 266 = .ok (.iinc 2 1, 3) := by decide +kernel
theorem dX6_cutsLoop_269 : decode cX6_cutsLoop 269 = .ok (.goto (-152), 3) := by decide +kernel
theorem dX6_cutsLoop_272 : decode cX6_cutsLoop 272 = .ok (.aload_n 0, 1) := by decide +kernel
theorem dX6_cutsLoop_273 : decode cX6_cutsLoop 273 = .ok (.invokevirtual 298, 3) := by decide +kernel
theorem dX6_cutsLoop_276 : decode cX6_cutsLoop 276 = .ok (.goto (-167), 3) := by decide +kernel
theorem dX6_cutsLoop_279 : decode cX6_cutsLoop 279 = .ok (.aload_n 0, 1) := by decide +kernel
theorem dX6_cutsLoop_280 : decode cX6_cutsLoop 280 = .ok (.getfield 295, 3) := by decide +kernel
theorem dX6_cutsLoop_283 : decode cX6_cutsLoop 283 = .ok (.ifCond .le 7, 3) := by decide +kernel
theorem dX6_cutsLoop_286 : decode cX6_cutsLoop 286 = .ok (.iconst 1, 1) := by decide +kernel
theorem dX6_cutsLoop_287 : decode cX6_cutsLoop 287 = .ok (.goto 4, 3) := by decide +kernel
theorem dX6_cutsLoop_290 : decode cX6_cutsLoop 290 = .ok (.iconst 0, 1) := by decide +kernel
theorem dX6_cutsLoop_291 : decode cX6_cutsLoop 291 = .ok (.ireturn, 1) := by decide +kernel
theorem dX6_partNode_0 : decode cX6_partNode 0 = .ok (.aload_n 0, 1) := by decide +kernel
theorem dX6_partNode_1 : decode cX6_partNode 1 = .ok (.iconst 1, 1) := by decide +kernel
theorem dX6_partNode_2 : decode cX6_partNode 2 = .ok (.bipush (-3), 2) := by decide +kernel
theorem dX6_partNode_4 : decode cX6_partNode 4 = .ok (.invokevirtual 216, 3) := by decide +kernel
theorem dX6_partNode_7 : decode cX6_partNode 7 = .ok (.istore 4, 2) := by decide +kernel
theorem dX6_partNode_9 : decode cX6_partNode 9 = .ok (.aload_n 0, 1) := by decide +kernel
theorem dX6_partNode_10 : decode cX6_partNode 10 = .ok (.iload 4, 2) := by decide +kernel
theorem dX6_partNode_12 : decode cX6_partNode 12 = .ok (.invokevirtual 321, 3) := by decide +kernel
theorem dX6_partNode_15 : decode cX6_partNode 15 = .ok (.aload_n 0, 1) := by decide +kernel
theorem dX6_partNode_16 : decode cX6_partNode 16 = .ok (.getfield 101, 3) := by decide +kernel
theorem dX6_partNode_19 : decode cX6_partNode 19 = .ok (.iload_n 1, 1) := by decide +kernel
theorem dX6_partNode_20 : decode cX6_partNode 20 = .ok (.iaload, 1) := by decide +kernel
theorem dX6_partNode_21 : decode cX6_partNode 21 = .ok (.istore 5, 2) := by decide +kernel
theorem dX6_partNode_23 : decode cX6_partNode 23 = .ok (.iload 5, 2) := by decide +kernel
theorem dX6_partNode_25 : decode cX6_partNode 25 = .ok (.istore 6, 2) := by decide +kernel
theorem dX6_partNode_27 : decode cX6_partNode 27 = .ok (.iload 6, 2) := by decide +kernel
theorem dX6_partNode_29 : decode cX6_partNode 29 = .ok (.iload 5, 2) := by decide +kernel
theorem dX6_partNode_31 : decode cX6_partNode 31 = .ok (.aload_n 0, 1) := by decide +kernel
theorem dX6_partNode_32 : decode cX6_partNode 32 = .ok (.getfield 104, 3) := by decide +kernel
theorem dX6_partNode_35 : decode cX6_partNode 35 = .ok (.iload_n 1, 1) := by decide +kernel
theorem dX6_partNode_36 : decode cX6_partNode 36 = .ok (.iaload, 1) := by decide +kernel
theorem dX6_partNode_37 : decode cX6_partNode 37 = .ok (.iadd, 1) := by decide +kernel
theorem dX6_partNode_38 : decode cX6_partNode 38 = .ok (.if_icmp .ge 162, 3) := by decide +kernel
theorem dX6_partNode_41 : decode cX6_partNode 41 = .ok (.iconst 0, 1) := by decide +kernel
theorem dX6_partNode_42 : decode cX6_partNode 42 = .ok (.istore 7, 2) := by decide +kernel
theorem dX6_partNode_44 : decode cX6_partNode 44 = .ok (.iload_n 3, 1) := by decide +kernel
theorem dX6_partNode_45 : decode cX6_partNode 45 = .ok (.iconst 2, 1) := by decide +kernel
theorem dX6_partNode_46 : decode cX6_partNode 46 = .ok (.if_icmp .eq 34, 3) := by decide +kernel
theorem dX6_partNode_49 : decode cX6_partNode 49 = .ok (.iload_n 3, 1) := by decide +kernel
theorem dX6_partNode_50 : decode cX6_partNode 50 = .ok (.iconst 4, 1) := by decide +kernel
theorem dX6_partNode_51 : decode cX6_partNode 51 = .ok (.if_icmp .eq 29, 3) := by decide +kernel
theorem dX6_partNode_54 : decode cX6_partNode 54 = .ok (.iload_n 3, 1) := by decide +kernel
theorem dX6_partNode_55 : decode cX6_partNode 55 = .ok (.iconst 3, 1) := by decide +kernel
theorem dX6_partNode_56 : decode cX6_partNode 56 = .ok (.if_icmp .ne 30, 3) := by decide +kernel
theorem dX6_partNode_59 : decode cX6_partNode 59 = .ok (.aload_n 0, 1) := by decide +kernel
theorem dX6_partNode_60 : decode cX6_partNode 60 = .ok (.getfield 128, 3) := by decide +kernel
theorem dX6_partNode_63 : decode cX6_partNode 63 = .ok (.aload_n 0, 1) := by decide +kernel
theorem dX6_partNode_64 : decode cX6_partNode 64 = .ok (.getfield 113, 3) := by decide +kernel
theorem dX6_partNode_67 : decode cX6_partNode 67 = .ok (.aload_n 0, 1) := by decide +kernel
theorem dX6_partNode_68 : decode cX6_partNode 68 = .ok (.getfield 107, 3) := by decide +kernel
theorem dX6_partNode_71 : decode cX6_partNode 71 = .ok (.iload 6, 2) := by decide +kernel
theorem dX6_partNode_73 : decode cX6_partNode 73 = .ok (.iaload, 1) := by decide +kernel
theorem dX6_partNode_74 : decode cX6_partNode 74 = .ok (.iaload, 1) := by decide +kernel
theorem dX6_partNode_75 : decode cX6_partNode 75 = .ok (.iaload, 1) := by decide +kernel
theorem dX6_partNode_76 : decode cX6_partNode 76 = .ok (.iload_n 2, 1) := by decide +kernel
theorem dX6_partNode_77 : decode cX6_partNode 77 = .ok (.if_icmp .ne 9, 3) := by decide +kernel
theorem dX6_partNode_80 : decode cX6_partNode 80 = .ok (.aload_n 0, 1) := by decide +kernel
theorem dX6_partNode_81 : decode cX6_partNode 81 = .ok (.iload 4, 2) := by decide +kernel
theorem dX6_partNode_83 : decode cX6_partNode 83 = .ok (.invokevirtual 324, 3) := by decide +kernel
theorem dX6_partNode_86 : decode cX6_partNode 86 = .ok (.iconst 0, 1) := by decide +kernel
theorem dX6_partNode_87 : decode cX6_partNode 87 = .ok (.istore 8, 2) := by decide +kernel
theorem dX6_partNode_89 : decode cX6_partNode 89 = .ok (.iload 8, 2) := by decide +kernel
theorem dX6_partNode_91 : decode cX6_partNode 91 = .ok (.aload_n 0, 1) := by decide +kernel
theorem dX6_partNode_92 : decode cX6_partNode 92 = .ok (.getfield 110, 3) := by decide +kernel
theorem dX6_partNode_95 : decode cX6_partNode 95 = .ok (.iload 6, 2) := by decide +kernel
theorem dX6_partNode_97 : decode cX6_partNode 97 = .ok (.iaload, 1) := by decide +kernel
theorem dX6_partNode_98 : decode cX6_partNode 98 = .ok (.if_icmp .ge 96, 3) := by decide +kernel
theorem dX6_partNode_101 : decode cX6_partNode 101 = .ok (.aload_n 0, 1) := by decide +kernel
theorem dX6_partNode_102 : decode cX6_partNode 102 = .ok (.getfield 113, 3) := by decide +kernel
theorem dX6_partNode_105 : decode cX6_partNode 105 = .ok (.aload_n 0, 1) := by decide +kernel
theorem dX6_partNode_106 : decode cX6_partNode 106 = .ok (.getfield 107, 3) := by decide +kernel
theorem dX6_partNode_109 : decode cX6_partNode 109 = .ok (.iload 6, 2) := by decide +kernel
theorem dX6_partNode_111 : decode cX6_partNode 111 = .ok (.iaload, 1) := by decide +kernel
theorem dX6_partNode_112 : decode cX6_partNode 112 = .ok (.iload 8, 2) := by decide +kernel
theorem dX6_partNode_114 : decode cX6_partNode 114 = .ok (.iadd, 1) := by decide +kernel
theorem dX6_partNode_115 : decode cX6_partNode 115 = .ok (.iaload, 1) := by decide +kernel
theorem dX6_partNode_116 : decode cX6_partNode 116 = .ok (.istore 9, 2) := by decide +kernel
theorem dX6_partNode_118 : decode cX6_partNode 118 = .ok (.iload_n 2, 1) := by decide +kernel
theorem dX6_partNode_119 : decode cX6_partNode 119 = .ok (.bipush (-3), 2) := by decide +kernel
theorem dX6_partNode_121 : decode cX6_partNode 121 = .ok (.if_icmp .ne 13, 3) := by decide +kernel
theorem dX6_partNode_124 : decode cX6_partNode 124 = .ok (.aload_n 0, 1) := by decide +kernel
theorem dX6_partNode_125 : decode cX6_partNode 125 = .ok (.getfield 140, 3) := by decide +kernel
theorem dX6_partNode_128 : decode cX6_partNode 128 = .ok (.iload 9, 2) := by decide +kernel
theorem dX6_partNode_130 : decode cX6_partNode 130 = .ok (.baload, 1) := by decide +kernel
theorem dX6_partNode_131 : decode cX6_partNode 131 = .ok (.goto 19, 3) := by decide +kernel
theorem dX6_partNode_134 : decode cX6_partNode 134 = .ok (.aload_n 0, 1) := by decide +kernel
theorem dX6_partNode_135 : decode cX6_partNode 135 = .ok (.getfield 128, 3) := by decide +kernel
theorem dX6_partNode_138 : decode cX6_partNode 138 = .ok (.iload 9, 2) := by decide +kernel
theorem dX6_partNode_140 : decode cX6_partNode 140 = .ok (.iaload, 1) := by decide +kernel
theorem dX6_partNode_141 : decode cX6_partNode 141 = .ok (.iload_n 2, 1) := by decide +kernel
theorem dX6_partNode_142 : decode cX6_partNode 142 = .ok (.if_icmp .ne 7, 3) := by decide +kernel
theorem dX6_partNode_145 : decode cX6_partNode 145 = .ok (.iconst 1, 1) := by decide +kernel
theorem dX6_partNode_146 : decode cX6_partNode 146 = .ok (.goto 4, 3) := by decide +kernel
theorem dX6_partNode_149 : decode cX6_partNode 149 = .ok (.iconst 0, 1) := by decide +kernel
theorem dX6_partNode_150 : decode cX6_partNode 150 = .ok (.istore 10, 2) := by decide +kernel
theorem dX6_partNode_152 : decode cX6_partNode 152 = .ok (.iload 10, 2) := by decide +kernel
theorem dX6_partNode_154 : decode cX6_partNode 154 = .ok (.ifCond .eq 19, 3) := by decide +kernel
theorem dX6_partNode_157 : decode cX6_partNode 157 = .ok (.iload_n 3, 1) := by decide +kernel
theorem dX6_partNode_158 : decode cX6_partNode 158 = .ok (.iconst 5, 1) := by decide +kernel
theorem dX6_partNode_159 : decode cX6_partNode 159 = .ok (.if_icmp .ne 14, 3) := by decide +kernel
theorem dX6_partNode_162 : decode cX6_partNode 162 = .ok (.iload 7, 2) := by decide +kernel
theorem dX6_partNode_164 : decode cX6_partNode 164 = .ok (.ifCond .ne 9, 3) := by decide +kernel
theorem dX6_partNode_167 : decode cX6_partNode 167 = .ok (.aload_n 0, 1) := by decide +kernel
theorem dX6_partNode_168 : decode cX6_partNode 168 = .ok (.iload 4, 2) := by decide +kernel
theorem dX6_partNode_170 : decode cX6_partNode 170 = .ok (.invokevirtual 324, 3) := by decide +kernel
theorem dX6_partNode_173 : decode cX6_partNode 173 = .ok (.iload 10, 2) := by decide +kernel
theorem dX6_partNode_175 : decode cX6_partNode 175 = .ok (.istore 7, 2) := by decide +kernel
theorem dX6_partNode_177 : decode cX6_partNode 177 = .ok (.iload 10, 2) := by decide +kernel
theorem dX6_partNode_179 : decode cX6_partNode 179 = .ok (.ifCond .eq 9, 3) := by decide +kernel
theorem dX6_partNode_182 : decode cX6_partNode 182 = .ok (.aload_n 0, 1) := by decide +kernel
theorem dX6_partNode_183 : decode cX6_partNode 183 = .ok (.iload 9, 2) := by decide +kernel
theorem dX6_partNode_185 : decode cX6_partNode 185 = .ok (.invokevirtual 327, 3) := by decide +kernel
theorem dX6_partNode_188 : decode cX6_partNode 188 = .ok (.iinc 8 1, 3) := by decide +kernel
theorem dX6_partNode_191 : decode cX6_partNode 191 = .ok (.goto (-102), 3) := by decide +kernel
theorem dX6_partNode_194 : decode cX6_partNode 194 = .ok (.iinc 6 1, 3) := by decide +kernel
theorem dX6_partNode_197 : decode cX6_partNode 197 = .ok (.goto (-170), 3) := by decide +kernel
theorem dX6_partNode_200 : decode cX6_partNode 200 = .ok (.iload 4, 2) := by decide +kernel
theorem dX6_partNode_202 : decode cX6_partNode 202 = .ok (.ireturn, 1) := by decide +kernel
theorem dX6_takes_0 : decode cX6_takes 0 = .ok (.aload_n 0, 1) := by decide +kernel
theorem dX6_takes_1 : decode cX6_takes 1 = .ok (.getfield 59, 3) := by decide +kernel
theorem dX6_takes_4 : decode cX6_takes 4 = .ok (.aload_n 0, 1) := by decide +kernel
theorem dX6_takes_5 : decode cX6_takes 5 = .ok (.getfield 213, 3) := by decide +kernel
theorem dX6_takes_8 : decode cX6_takes 8 = .ok (.iload_n 2, 1) := by decide +kernel
theorem dX6_takes_9 : decode cX6_takes 9 = .ok (.iastore, 1) := by decide +kernel
theorem dX6_takes_10 : decode cX6_takes 10 = .ok (.aload_n 0, 1) := by decide +kernel
theorem dX6_takes_11 : decode cX6_takes 11 = .ok (.dup, 1) := by decide +kernel
theorem dX6_takes_12 : decode cX6_takes 12 = .ok (.getfield 213, 3) := by decide +kernel
theorem dX6_takes_15 : decode cX6_takes 15 = .ok (.iconst 1, 1) := by decide +kernel
theorem dX6_takes_16 : decode cX6_takes 16 = .ok (.iadd, 1) := by decide +kernel
theorem dX6_takes_17 : decode cX6_takes 17 = .ok (.putfield 213, 3) := by decide +kernel
theorem dX6_takes_20 : decode cX6_takes 20 = .ok (.aload_n 0, 1) := by decide +kernel
theorem dX6_takes_21 : decode cX6_takes 21 = .ok (.getfield 56, 3) := by decide +kernel
theorem dX6_takes_24 : decode cX6_takes 24 = .ok (.iload_n 1, 1) := by decide +kernel
theorem dX6_takes_25 : decode cX6_takes 25 = .ok (.dup2, 1) := by decide +kernel
theorem dX6_takes_26 : decode cX6_takes 26 = .ok (.iaload, 1) := by decide +kernel
theorem dX6_takes_27 : decode cX6_takes 27 = .ok (.iconst 1, 1) := by decide +kernel
theorem dX6_takes_28 : decode cX6_takes 28 = .ok (.iadd, 1) := by decide +kernel
theorem dX6_takes_29 : decode cX6_takes 29 = .ok (.iastore, 1) := by decide +kernel
theorem dX6_takes_30 : decode cX6_takes 30 = .ok (.return_, 1) := by decide +kernel
theorem dX6_cutNode_0 : decode cX6_cutNode 0 = .ok (.aload_n 0, 1) := by decide +kernel
theorem dX6_cutNode_1 : decode cX6_cutNode 1 = .ok (.getfield 47, 3) := by decide +kernel
theorem dX6_cutNode_4 : decode cX6_cutNode 4 = .ok (.iload_n 1, 1) := by decide +kernel
theorem dX6_cutNode_5 : decode cX6_cutNode 5 = .ok (.iload_n 2, 1) := by decide +kernel
theorem dX6_cutNode_6 : decode cX6_cutNode 6 = .ok (.iastore, 1) := by decide +kernel
theorem dX6_cutNode_7 : decode cX6_cutNode 7 = .ok (.aload_n 0, 1) := by decide +kernel
theorem dX6_cutNode_8 : decode cX6_cutNode 8 = .ok (.getfield 146, 3) := by decide +kernel
theorem dX6_cutNode_11 : decode cX6_cutNode 11 = .ok (.astore_n 3, 1) := by decide +kernel
theorem dX6_cutNode_12 : decode cX6_cutNode 12 = .ok (.iconst 0, 1) := by decide +kernel
theorem dX6_cutNode_13 : decode cX6_cutNode 13 = .ok (.istore 4, 2) := by decide +kernel
theorem dX6_cutNode_15 : decode cX6_cutNode 15 = .ok (.iload_n 2, 1) := by decide +kernel
theorem dX6_cutNode_16 : decode cX6_cutNode 16 = .ok (.iconst 5, 1) := by decide +kernel
theorem dX6_cutNode_17 : decode cX6_cutNode 17 = .ok (.if_icmp .ne 18, 3) := by decide +kernel
theorem dX6_cutNode_20 : decode cX6_cutNode 20 = .ok (.aload_n 3, 1) := by decide +kernel
theorem dX6_cutNode_21 : decode cX6_cutNode 21 = .ok (.iload 4, 2) := by decide +kernel
theorem dX6_cutNode_23 : decode cX6_cutNode 23 = .ok (.aload_n 0, 1) := by decide +kernel
theorem dX6_cutNode_24 : decode cX6_cutNode 24 = .ok (.iload_n 1, 1) := by decide +kernel
theorem dX6_cutNode_25 : decode cX6_cutNode 25 = .ok (.bipush (-3), 2) := by decide +kernel
theorem dX6_cutNode_27 : decode cX6_cutNode 27 = .ok (.iload_n 2, 1) := by decide +kernel
theorem dX6_cutNode_28 : decode cX6_cutNode 28 = .ok (.invokevirtual 330, 3) := by decide +kernel
theorem dX6_cutNode_31 : decode cX6_cutNode 31 = .ok (.iastore, 1) := by decide +kernel
theorem dX6_cutNode_32 : decode cX6_cutNode 32 = .ok (.iinc 4 1, 3) := by decide +kernel
theorem dX6_cutNode_35 : decode cX6_cutNode 35 = .ok (.iconst 0, 1) := by decide +kernel
theorem dX6_cutNode_36 : decode cX6_cutNode 36 = .ok (.istore 5, 2) := by decide +kernel
theorem dX6_cutNode_38 : decode cX6_cutNode 38 = .ok (.iload 5, 2) := by decide +kernel
theorem dX6_cutNode_40 : decode cX6_cutNode 40 = .ok (.aload_n 0, 1) := by decide +kernel
theorem dX6_cutNode_41 : decode cX6_cutNode 41 = .ok (.getfield 295, 3) := by decide +kernel
theorem dX6_cutNode_44 : decode cX6_cutNode 44 = .ok (.if_icmp .ge 29, 3) := by decide +kernel
theorem dX6_cutNode_47 : decode cX6_cutNode 47 = .ok (.aload_n 3, 1) := by decide +kernel
theorem dX6_cutNode_48 : decode cX6_cutNode 48 = .ok (.iload 4, 2) := by decide +kernel
theorem dX6_cutNode_50 : decode cX6_cutNode 50 = .ok (.aload_n 0, 1) := by decide +kernel
theorem dX6_cutNode_51 : decode cX6_cutNode 51 = .ok (.iload_n 1, 1) := by decide +kernel
theorem dX6_cutNode_52 : decode cX6_cutNode 52 = .ok (.aload_n 0, 1) := by decide +kernel
theorem dX6_cutNode_53 : decode cX6_cutNode 53 = .ok (.getfield 131, 3) := by decide +kernel
theorem dX6_cutNode_56 : decode cX6_cutNode 56 = .ok (.iload 5, 2) := by decide +kernel
theorem dX6_cutNode_58 : decode cX6_cutNode 58 = .ok (.iaload, 1) := by decide +kernel
theorem dX6_cutNode_59 : decode cX6_cutNode 59 = .ok (.iload_n 2, 1) := by decide +kernel
theorem dX6_cutNode_60 : decode cX6_cutNode 60 = .ok (.invokevirtual 330, 3) := by decide +kernel
theorem dX6_cutNode_63 : decode cX6_cutNode 63 = .ok (.iastore, 1) := by decide +kernel
theorem dX6_cutNode_64 : decode cX6_cutNode 64 = .ok (.iinc 4 1, 3) := by decide +kernel
theorem dX6_cutNode_67 : decode cX6_cutNode 67 = .ok (.iinc 5 1, 3) := by decide +kernel
theorem dX6_cutNode_70 : decode cX6_cutNode 70 = .ok (.goto (-32), 3) := by decide +kernel
theorem dX6_cutNode_73 : decode cX6_cutNode 73 = .ok (.aload_n 0, 1) := by decide +kernel
theorem dX6_cutNode_74 : decode cX6_cutNode 74 = .ok (.getfield 53, 3) := by decide +kernel
theorem dX6_cutNode_77 : decode cX6_cutNode 77 = .ok (.iload_n 1, 1) := by decide +kernel
theorem dX6_cutNode_78 : decode cX6_cutNode 78 = .ok (.aload_n 0, 1) := by decide +kernel
theorem dX6_cutNode_79 : decode cX6_cutNode 79 = .ok (.getfield 213, 3) := by decide +kernel
theorem dX6_cutNode_82 : decode cX6_cutNode 82 = .ok (.iastore, 1) := by decide +kernel
theorem dX6_cutNode_83 : decode cX6_cutNode 83 = .ok (.iconst 0, 1) := by decide +kernel
theorem dX6_cutNode_84 : decode cX6_cutNode 84 = .ok (.istore 5, 2) := by decide +kernel
theorem dX6_cutNode_86 : decode cX6_cutNode 86 = .ok (.iload 5, 2) := by decide +kernel
theorem dX6_cutNode_88 : decode cX6_cutNode 88 = .ok (.iload 4, 2) := by decide +kernel
theorem dX6_cutNode_90 : decode cX6_cutNode 90 = .ok (.if_icmp .ge 18, 3) := by decide +kernel
theorem dX6_cutNode_93 : decode cX6_cutNode 93 = .ok (.aload_n 0, 1) := by decide +kernel
theorem dX6_cutNode_94 : decode cX6_cutNode 94 = .ok (.iload_n 1, 1) := by decide +kernel
theorem dX6_cutNode_95 : decode cX6_cutNode 95 = .ok (.aload_n 3, 1) := by decide +kernel
theorem dX6_cutNode_96 : decode cX6_cutNode 96 = .ok (.iload 5, 2) := by decide +kernel
theorem dX6_cutNode_98 : decode cX6_cutNode 98 = .ok (.iaload, 1) := by decide +kernel
theorem dX6_cutNode_99 : decode cX6_cutNode 99 = .ok (.invokevirtual 334, 3) := by decide +kernel
theorem dX6_cutNode_102 : decode cX6_cutNode 102 = .ok (.iinc 5 1, 3) := by decide +kernel
theorem dX6_cutNode_105 : decode cX6_cutNode 105 = .ok (.goto (-19), 3) := by decide +kernel
theorem dX6_cutNode_108 : decode cX6_cutNode 108 = .ok (.return_, 1) := by decide +kernel
theorem dX6_leaf_0 : decode cX6_leaf 0 = .ok (.aload_n 0, 1) := by decide +kernel
theorem dX6_leaf_1 : decode cX6_leaf 1 = .ok (.iload_n 1, 1) := by decide +kernel
theorem dX6_leaf_2 : decode cX6_leaf 2 = .ok (.iload_n 2, 1) := by decide +kernel
theorem dX6_leaf_3 : decode cX6_leaf 3 = .ok (.invokevirtual 216, 3) := by decide +kernel
theorem dX6_leaf_6 : decode cX6_leaf 6 = .ok (.istore_n 3, 1) := by decide +kernel
theorem dX6_leaf_7 : decode cX6_leaf 7 = .ok (.aload_n 0, 1) := by decide +kernel
theorem dX6_leaf_8 : decode cX6_leaf 8 = .ok (.getfield 104, 3) := by decide +kernel
theorem dX6_leaf_11 : decode cX6_leaf 11 = .ok (.iload_n 3, 1) := by decide +kernel
theorem dX6_leaf_12 : decode cX6_leaf 12 = .ok (.iconst (-1), 1) := by decide +kernel
theorem dX6_leaf_13 : decode cX6_leaf 13 = .ok (.iastore, 1) := by decide +kernel
theorem dX6_leaf_14 : decode cX6_leaf 14 = .ok (.iload_n 3, 1) := by decide +kernel
theorem dX6_leaf_15 : decode cX6_leaf 15 = .ok (.ireturn, 1) := by decide +kernel
theorem dX6_settle_0 : decode cX6_settle 0 = .ok (.iconst 0, 1) := by decide +kernel
theorem dX6_settle_1 : decode cX6_settle 1 = .ok (.istore_n 2, 1) := by decide +kernel
theorem dX6_settle_2 : decode cX6_settle 2 = .ok (.iconst 1, 1) := by decide +kernel
theorem dX6_settle_3 : decode cX6_settle 3 = .ok (.istore_n 3, 1) := by decide +kernel
theorem dX6_settle_4 : decode cX6_settle 4 = .ok (.aload_n 0, 1) := by decide +kernel
theorem dX6_settle_5 : decode cX6_settle 5 = .ok (.getfield 101, 3) := by decide +kernel
theorem dX6_settle_8 : decode cX6_settle 8 = .ok (.iload_n 1, 1) := by decide +kernel
theorem dX6_settle_9 : decode cX6_settle 9 = .ok (.iaload, 1) := by decide +kernel
theorem dX6_settle_10 : decode cX6_settle 10 = .ok (.istore 4, 2) := by decide +kernel
theorem dX6_settle_12 : decode cX6_settle 12 = .ok (.iload 4, 2) := by decide +kernel
theorem dX6_settle_14 : decode cX6_settle 14 = .ok (.aload_n 0, 1) := by decide +kernel
theorem dX6_settle_15 : decode cX6_settle 15 = .ok (.getfield 101, 3) := by decide +kernel
theorem dX6_settle_18 : decode cX6_settle 18 = .ok (.iload_n 1, 1) := by decide +kernel
theorem dX6_settle_19 : decode cX6_settle 19 = .ok (.iaload, 1) := by decide +kernel
theorem dX6_settle_20 : decode cX6_settle 20 = .ok (.aload_n 0, 1) := by decide +kernel
theorem dX6_settle_21 : decode cX6_settle 21 = .ok (.getfield 104, 3) := by decide +kernel
theorem dX6_settle_24 : decode cX6_settle 24 = .ok (.iload_n 1, 1) := by decide +kernel
theorem dX6_settle_25 : decode cX6_settle 25 = .ok (.iaload, 1) := by decide +kernel
theorem dX6_settle_26 : decode cX6_settle 26 = .ok (.iadd, 1) := by decide +kernel
theorem dX6_settle_27 : decode cX6_settle 27 = .ok (.if_icmp .ge 48, 3) := by decide +kernel
theorem dX6_settle_30 : decode cX6_settle 30 = .ok (.iload_n 2, 1) := by decide +kernel
theorem dX6_settle_31 : decode cX6_settle 31 = .ok (.aload_n 0, 1) := by decide +kernel
theorem dX6_settle_32 : decode cX6_settle 32 = .ok (.getfield 110, 3) := by decide +kernel
theorem dX6_settle_35 : decode cX6_settle 35 = .ok (.iload 4, 2) := by decide +kernel
theorem dX6_settle_37 : decode cX6_settle 37 = .ok (.iaload, 1) := by decide +kernel
theorem dX6_settle_38 : decode cX6_settle 38 = .ok (.ifCond .ne 7, 3) := by decide +kernel
theorem dX6_settle_41 : decode cX6_settle 41 = .ok (.iconst 1, 1) := by decide +kernel
theorem dX6_settle_42 : decode cX6_settle 42 = .ok (.goto 4, 3) := by decide +kernel
theorem dX6_settle_45 : decode cX6_settle 45 = .ok (.iconst 0, 1) := by decide +kernel
theorem dX6_settle_46 : decode cX6_settle 46 = .ok (.iadd, 1) := by decide +kernel
theorem dX6_settle_47 : decode cX6_settle 47 = .ok (.istore_n 2, 1) := by decide +kernel
theorem dX6_settle_48 : decode cX6_settle 48 = .ok (.iload_n 3, 1) := by decide +kernel
theorem dX6_settle_49 : decode cX6_settle 49 = .ok (.ifCond .eq 18, 3) := by decide +kernel
theorem dX6_settle_52 : decode cX6_settle 52 = .ok (.aload_n 0, 1) := by decide +kernel
theorem dX6_settle_53 : decode cX6_settle 53 = .ok (.getfield 110, 3) := by decide +kernel
theorem dX6_settle_56 : decode cX6_settle 56 = .ok (.iload 4, 2) := by decide +kernel
theorem dX6_settle_58 : decode cX6_settle 58 = .ok (.iaload, 1) := by decide +kernel
theorem dX6_settle_59 : decode cX6_settle 59 = .ok (.iconst 1, 1) := by decide +kernel
theorem dX6_settle_60 : decode cX6_settle 60 = .ok (.if_icmp .ne 7, 3) := by decide +kernel
theorem dX6_settle_63 : decode cX6_settle 63 = .ok (.iconst 1, 1) := by decide +kernel
theorem dX6_settle_64 : decode cX6_settle 64 = .ok (.goto 4, 3) := by decide +kernel
theorem dX6_settle_67 : decode cX6_settle 67 = .ok (.iconst 0, 1) := by decide +kernel
theorem dX6_settle_68 : decode cX6_settle 68 = .ok (.istore_n 3, 1) := by decide +kernel
theorem dX6_settle_69 : decode cX6_settle 69 = .ok (.iinc 4 1, 3) := by decide +kernel
theorem dX6_settle_72 : decode cX6_settle 72 = .ok (.goto (-60), 3) := by decide +kernel
theorem dX6_settle_75 : decode cX6_settle 75 = .ok (.aload_n 0, 1) := by decide +kernel
theorem dX6_settle_76 : decode cX6_settle 76 = .ok (.iload_n 1, 1) := by decide +kernel
theorem dX6_settle_77 : decode cX6_settle 77 = .ok (.invokevirtual 337, 3) := by decide +kernel
theorem dX6_settle_80 : decode cX6_settle 80 = .ok (.iconst 0, 1) := by decide +kernel
theorem dX6_settle_81 : decode cX6_settle 81 = .ok (.istore 4, 2) := by decide +kernel
theorem dX6_settle_83 : decode cX6_settle 83 = .ok (.bipush (-3), 2) := by decide +kernel
theorem dX6_settle_85 : decode cX6_settle 85 = .ok (.istore 5, 2) := by decide +kernel
theorem dX6_settle_87 : decode cX6_settle 87 = .ok (.iconst 0, 1) := by decide +kernel
theorem dX6_settle_88 : decode cX6_settle 88 = .ok (.istore 6, 2) := by decide +kernel
theorem dX6_settle_90 : decode cX6_settle 90 = .ok (.iload 6, 2) := by decide +kernel
theorem dX6_settle_92 : decode cX6_settle 92 = .ok (.bipush 12, 2) := by decide +kernel
theorem dX6_settle_94 : decode cX6_settle 94 = .ok (.if_icmp .ge 48, 3) := by decide +kernel
theorem dX6_settle_97 : decode cX6_settle 97 = .ok (.iload 4, 2) := by decide +kernel
theorem dX6_settle_99 : decode cX6_settle 99 = .ok (.aload_n 0, 1) := by decide +kernel
theorem dX6_settle_100 : decode cX6_settle 100 = .ok (.getfield 119, 3) := by decide +kernel
theorem dX6_settle_103 : decode cX6_settle 103 = .ok (.iload 6, 2) := by decide +kernel
theorem dX6_settle_105 : decode cX6_settle 105 = .ok (.baload, 1) := by decide +kernel
theorem dX6_settle_106 : decode cX6_settle 106 = .ok (.ifCond .eq 7, 3) := by decide +kernel
theorem dX6_settle_109 : decode cX6_settle 109 = .ok (.iconst 1, 1) := by decide +kernel
theorem dX6_settle_110 : decode cX6_settle 110 = .ok (.goto 4, 3) := by decide +kernel
theorem dX6_settle_113 : decode cX6_settle 113 = .ok (.iconst 0, 1) := by decide +kernel
theorem dX6_settle_114 : decode cX6_settle 114 = .ok (.iadd, 1) := by decide +kernel
theorem dX6_settle_115 : decode cX6_settle 115 = .ok (.istore 4, 2) := by decide +kernel
theorem dX6_settle_117 : decode cX6_settle 117 = .ok (.aload_n 0, 1) := by decide +kernel
theorem dX6_settle_118 : decode cX6_settle 118 = .ok (.getfield 119, 3) := by decide +kernel
theorem dX6_settle_121 : decode cX6_settle 121 = .ok (.iload 6, 2) := by decide +kernel
theorem dX6_settle_123 : decode cX6_settle 123 = .ok (.baload, 1) := by decide +kernel
theorem dX6_settle_124 : decode cX6_settle 124 = .ok (.ifCond .eq 8, 3) := by decide +kernel
theorem dX6_settle_127 : decode cX6_settle 127 = .ok (.iload 6, 2) := by decide +kernel
theorem dX6_settle_129 : decode cX6_settle 129 = .ok (.goto 5, 3) := by decide +kernel
theorem dX6_settle_132 : decode cX6_settle 132 = .ok (.iload 5, 2) := by decide +kernel
theorem dX6_settle_134 : decode cX6_settle 134 = .ok (.istore 5, 2) := by decide +kernel
theorem dX6_settle_136 : decode cX6_settle 136 = .ok (.iinc 6 1, 3) := by decide +kernel
theorem dX6_settle_139 : decode cX6_settle 139 = .ok (.goto (-49), 3) := by decide +kernel
theorem dX6_settle_142 : decode cX6_settle 142 = .ok (.iload 4, 2) := by decide +kernel
theorem dX6_settle_144 : decode cX6_settle 144 = .ok (.ifCond .ne 13, 3) := by decide +kernel
theorem dX6_settle_147 : decode cX6_settle 147 = .ok (.aload_n 0, 1) := by decide +kernel
theorem dX6_settle_148 : decode cX6_settle 148 = .ok (.getfield 47, 3) := by decide +kernel
theorem dX6_settle_151 : decode cX6_settle 151 = .ok (.iload_n 1, 1) := by decide +kernel
theorem dX6_settle_152 : decode cX6_settle 152 = .ok (.iconst 1, 1) := by decide +kernel
theorem dX6_settle_153 : decode cX6_settle 153 = .ok (.iastore, 1) := by decide +kernel
theorem dX6_settle_154 : decode cX6_settle 154 = .ok (.goto 101, 3) := by decide +kernel
theorem dX6_settle_157 : decode cX6_settle 157 = .ok (.iload_n 2, 1) := by decide +kernel
theorem dX6_settle_158 : decode cX6_settle 158 = .ok (.ifCond .le 11, 3) := by decide +kernel
theorem dX6_settle_161 : decode cX6_settle 161 = .ok (.aload_n 0, 1) := by decide +kernel
theorem dX6_settle_162 : decode cX6_settle 162 = .ok (.iload_n 1, 1) := by decide +kernel
theorem dX6_settle_163 : decode cX6_settle 163 = .ok (.invokevirtual 340, 3) := by decide +kernel
theorem dX6_settle_166 : decode cX6_settle 166 = .ok (.goto 89, 3) := by decide +kernel
theorem dX6_settle_169 : decode cX6_settle 169 = .ok (.iload 4, 2) := by decide +kernel
theorem dX6_settle_171 : decode cX6_settle 171 = .ok (.iconst 1, 1) := by decide +kernel
theorem dX6_settle_172 : decode cX6_settle 172 = .ok (.if_icmp .ne 14, 3) := by decide +kernel
theorem dX6_settle_175 : decode cX6_settle 175 = .ok (.aload_n 0, 1) := by decide +kernel
theorem dX6_settle_176 : decode cX6_settle 176 = .ok (.iload_n 1, 1) := by decide +kernel
theorem dX6_settle_177 : decode cX6_settle 177 = .ok (.iload 5, 2) := by decide +kernel
theorem dX6_settle_179 : decode cX6_settle 179 = .ok (.iload_n 3, 1) := by decide +kernel
theorem dX6_settle_180 : decode cX6_settle 180 = .ok (.invokevirtual 343, 3) := by decide +kernel
theorem dX6_settle_183 : decode cX6_settle 183 = .ok (.goto 72, 3) := by decide +kernel
theorem dX6_settle_186 : decode cX6_settle 186 = .ok (.aload_n 0, 1) := by decide +kernel
theorem dX6_settle_187 : decode cX6_settle 187 = .ok (.invokevirtual 347, 3) := by decide +kernel
theorem dX6_settle_190 : decode cX6_settle 190 = .ok (.ifCond .eq 12, 3) := by decide +kernel
theorem dX6_settle_193 : decode cX6_settle 193 = .ok (.aload_n 0, 1) := by decide +kernel
theorem dX6_settle_194 : decode cX6_settle 194 = .ok (.iload_n 1, 1) := by decide +kernel
theorem dX6_settle_195 : decode cX6_settle 195 = .ok (.iconst 3, 1) := by decide +kernel
theorem dX6_settle_196 : decode cX6_settle 196 = .ok (.invokevirtual 351, 3) := by decide +kernel
theorem dX6_settle_199 : decode cX6_settle 199 = .ok (.goto 56, 3) := by decide +kernel
theorem dX6_settle_202 : decode cX6_settle 202 = .ok (.aload_n 0, 1) := by decide +kernel
theorem dX6_settle_203 : decode cX6_settle 203 = .ok (.invokevirtual 354, 3) := by decide +kernel
theorem dX6_settle_206 : decode cX6_settle 206 = .ok (.ifCond .eq 12, 3) := by decide +kernel
theorem dX6_settle_209 : decode cX6_settle 209 = .ok (.aload_n 0, 1) := by decide +kernel
theorem dX6_settle_210 : decode cX6_settle 210 = .ok (.iload_n 1, 1) := by decide +kernel
theorem dX6_settle_211 : decode cX6_settle 211 = .ok (.iconst 2, 1) := by decide +kernel
theorem dX6_settle_212 : decode cX6_settle 212 = .ok (.invokevirtual 351, 3) := by decide +kernel
theorem dX6_settle_215 : decode cX6_settle 215 = .ok (.goto 40, 3) := by decide +kernel
theorem dX6_settle_218 : decode cX6_settle 218 = .ok (.aload_n 0, 1) := by decide +kernel
theorem dX6_settle_219 : decode cX6_settle 219 = .ok (.invokevirtual 357, 3) := by decide +kernel
theorem dX6_settle_222 : decode cX6_settle 222 = .ok (.ifCond .eq 12, 3) := by decide +kernel
theorem dX6_settle_225 : decode cX6_settle 225 = .ok (.aload_n 0, 1) := by decide +kernel
theorem dX6_settle_226 : decode cX6_settle 226 = .ok (.iload_n 1, 1) := by decide +kernel
theorem dX6_settle_227 : decode cX6_settle 227 = .ok (.iconst 4, 1) := by decide +kernel
theorem dX6_settle_228 : decode cX6_settle 228 = .ok (.invokevirtual 351, 3) := by decide +kernel
theorem dX6_settle_231 : decode cX6_settle 231 = .ok (.goto 24, 3) := by decide +kernel
theorem dX6_settle_234 : decode cX6_settle 234 = .ok (.aload_n 0, 1) := by decide +kernel
theorem dX6_settle_235 : decode cX6_settle 235 = .ok (.invokevirtual 360, 3) := by decide +kernel
theorem dX6_settle_238 : decode cX6_settle 238 = .ok (.ifCond .eq 12, 3) := by decide +kernel
theorem dX6_settle_241 : decode cX6_settle 241 = .ok (.aload_n 0, 1) := by decide +kernel
theorem dX6_settle_242 : decode cX6_settle 242 = .ok (.iload_n 1, 1) := by decide +kernel
theorem dX6_settle_243 : decode cX6_settle 243 = .ok (.iconst 5, 1) := by decide +kernel
theorem dX6_settle_244 : decode cX6_settle 244 = .ok (.invokevirtual 351, 3) := by decide +kernel
theorem dX6_settle_247 : decode cX6_settle 247 = .ok (.goto 8, 3) := by decide +kernel
theorem dX6_settle_250 : decode cX6_settle 250 = .ok (.aload_n 0, 1) := by decide +kernel
theorem dX6_settle_251 : decode cX6_settle 251 = .ok (.iload_n 1, 1) := by decide +kernel
theorem dX6_settle_252 : decode cX6_settle 252 = .ok (.invokevirtual 363, 3) := by decide +kernel
theorem dX6_settle_255 : decode cX6_settle 255 = .ok (.return_, 1) := by decide +kernel
theorem dX6_rest_0 : decode cX6_rest 0 = .ok (.aload_n 0, 1) := by decide +kernel
theorem dX6_rest_1 : decode cX6_rest 1 = .ok (.getfield 47, 3) := by decide +kernel
theorem dX6_rest_4 : decode cX6_rest 4 = .ok (.iload_n 1, 1) := by decide +kernel
theorem dX6_rest_5 : decode cX6_rest 5 = .ok (.iconst 3, 1) := by decide +kernel
theorem dX6_rest_6 : decode cX6_rest 6 = .ok (.iastore, 1) := by decide +kernel
theorem dX6_rest_7 : decode cX6_rest 7 = .ok (.aload_n 0, 1) := by decide +kernel
theorem dX6_rest_8 : decode cX6_rest 8 = .ok (.iconst 1, 1) := by decide +kernel
theorem dX6_rest_9 : decode cX6_rest 9 = .ok (.bipush (-3), 2) := by decide +kernel
theorem dX6_rest_11 : decode cX6_rest 11 = .ok (.invokevirtual 366, 3) := by decide +kernel
theorem dX6_rest_14 : decode cX6_rest 14 = .ok (.istore_n 2, 1) := by decide +kernel
theorem dX6_rest_15 : decode cX6_rest 15 = .ok (.aload_n 0, 1) := by decide +kernel
theorem dX6_rest_16 : decode cX6_rest 16 = .ok (.iconst 1, 1) := by decide +kernel
theorem dX6_rest_17 : decode cX6_rest 17 = .ok (.bipush (-3), 2) := by decide +kernel
theorem dX6_rest_19 : decode cX6_rest 19 = .ok (.invokevirtual 216, 3) := by decide +kernel
theorem dX6_rest_22 : decode cX6_rest 22 = .ok (.istore_n 3, 1) := by decide +kernel
theorem dX6_rest_23 : decode cX6_rest 23 = .ok (.aload_n 0, 1) := by decide +kernel
theorem dX6_rest_24 : decode cX6_rest 24 = .ok (.iload_n 3, 1) := by decide +kernel
theorem dX6_rest_25 : decode cX6_rest 25 = .ok (.invokevirtual 321, 3) := by decide +kernel
theorem dX6_rest_28 : decode cX6_rest 28 = .ok (.aload_n 0, 1) := by decide +kernel
theorem dX6_rest_29 : decode cX6_rest 29 = .ok (.getfield 101, 3) := by decide +kernel
theorem dX6_rest_32 : decode cX6_rest 32 = .ok (.iload_n 1, 1) := by decide +kernel
theorem dX6_rest_33 : decode cX6_rest 33 = .ok (.iaload, 1) := by decide +kernel
theorem dX6_rest_34 : decode cX6_rest 34 = .ok (.istore 4, 2) := by decide +kernel
theorem dX6_rest_36 : decode cX6_rest 36 = .ok (.iload 4, 2) := by decide +kernel
theorem dX6_rest_38 : decode cX6_rest 38 = .ok (.aload_n 0, 1) := by decide +kernel
theorem dX6_rest_39 : decode cX6_rest 39 = .ok (.getfield 101, 3) := by decide +kernel
theorem dX6_rest_42 : decode cX6_rest 42 = .ok (.iload_n 1, 1) := by decide +kernel
theorem dX6_rest_43 : decode cX6_rest 43 = .ok (.iaload, 1) := by decide +kernel
theorem dX6_rest_44 : decode cX6_rest 44 = .ok (.aload_n 0, 1) := by decide +kernel
theorem dX6_rest_45 : decode cX6_rest 45 = .ok (.getfield 104, 3) := by decide +kernel
theorem dX6_rest_48 : decode cX6_rest 48 = .ok (.iload_n 1, 1) := by decide +kernel
theorem dX6_rest_49 : decode cX6_rest 49 = .ok (.iaload, 1) := by decide +kernel
theorem dX6_rest_50 : decode cX6_rest 50 = .ok (.iadd, 1) := by decide +kernel
theorem dX6_rest_51 : decode cX6_rest 51 = .ok (.if_icmp .ge 64, 3) := by decide +kernel
theorem dX6_rest_54 : decode cX6_rest 54 = .ok (.aload_n 0, 1) := by decide +kernel
theorem dX6_rest_55 : decode cX6_rest 55 = .ok (.getfield 110, 3) := by decide +kernel
theorem dX6_rest_58 : decode cX6_rest 58 = .ok (.iload 4, 2) := by decide +kernel
theorem dX6_rest_60 : decode cX6_rest 60 = .ok (.iaload, 1) := by decide +kernel
theorem dX6_rest_61 : decode cX6_rest 61 = .ok (.ifCond .le 48, 3) := by decide +kernel
theorem dX6_rest_64 : decode cX6_rest 64 = .ok (.aload_n 0, 1) := by decide +kernel
theorem dX6_rest_65 : decode cX6_rest 65 = .ok (.iload_n 3, 1) := by decide +kernel
theorem dX6_rest_66 : decode cX6_rest 66 = .ok (.invokevirtual 324, 3) := by decide +kernel
theorem dX6_rest_69 : decode cX6_rest 69 = .ok (.iconst 0, 1) := by decide +kernel
theorem dX6_rest_70 : decode cX6_rest 70 = .ok (.istore 5, 2) := by decide +kernel
theorem dX6_rest_72 : decode cX6_rest 72 = .ok (.iload 5, 2) := by decide +kernel
theorem dX6_rest_74 : decode cX6_rest 74 = .ok (.aload_n 0, 1) := by decide +kernel
theorem dX6_rest_75 : decode cX6_rest 75 = .ok (.getfield 110, 3) := by decide +kernel
theorem dX6_rest_78 : decode cX6_rest 78 = .ok (.iload 4, 2) := by decide +kernel
theorem dX6_rest_80 : decode cX6_rest 80 = .ok (.iaload, 1) := by decide +kernel
theorem dX6_rest_81 : decode cX6_rest 81 = .ok (.if_icmp .ge 28, 3) := by decide +kernel
theorem dX6_rest_84 : decode cX6_rest 84 = .ok (.aload_n 0, 1) := by decide +kernel
theorem dX6_rest_85 : decode cX6_rest 85 = .ok (.aload_n 0, 1) := by decide +kernel
theorem dX6_rest_86 : decode cX6_rest 86 = .ok (.getfield 113, 3) := by decide +kernel
theorem dX6_rest_89 : decode cX6_rest 89 = .ok (.aload_n 0, 1) := by decide +kernel
theorem dX6_rest_90 : decode cX6_rest 90 = .ok (.getfield 107, 3) := by decide +kernel
theorem dX6_rest_93 : decode cX6_rest 93 = .ok (.iload 4, 2) := by decide +kernel
theorem dX6_rest_95 : decode cX6_rest 95 = .ok (.iaload, 1) := by decide +kernel
theorem dX6_rest_96 : decode cX6_rest 96 = .ok (.iload 5, 2) := by decide +kernel
theorem dX6_rest_98 : decode cX6_rest 98 = .ok (.iadd, 1) := by decide +kernel
theorem dX6_rest_99 : decode cX6_rest 99 = .ok (.iaload, 1) := by decide +kernel
theorem dX6_rest_100 : decode cX6_rest 100 = .ok (.invokevirtual 327, 3) := by decide +kernel
theorem dX6_rest_103 : decode cX6_rest 103 = .ok (.iinc 5 1, 3) := by decide +kernel
theorem dX6_rest_106 : decode cX6_rest 106 = .ok (.goto (-34), 3) := by decide +kernel
theorem dX6_rest_109 : decode cX6_rest 109 = .ok (.iinc 4 1, 3) := by decide +kernel
theorem dX6_rest_112 : decode cX6_rest 112 = .ok (.goto (-76), 3) := by decide +kernel
theorem dX6_rest_115 : decode cX6_rest 115 = .ok (.aload_n 0, 1) := by decide +kernel
theorem dX6_rest_116 : decode cX6_rest 116 = .ok (.getfield 53, 3) := by decide +kernel
theorem dX6_rest_119 : decode cX6_rest 119 = .ok (.iload_n 1, 1) := by decide +kernel
theorem dX6_rest_120 : decode cX6_rest 120 = .ok (.aload_n 0, 1) := by decide +kernel
theorem dX6_rest_121 : decode cX6_rest 121 = .ok (.getfield 213, 3) := by decide +kernel
theorem dX6_rest_124 : decode cX6_rest 124 = .ok (.iastore, 1) := by decide +kernel
theorem dX6_rest_125 : decode cX6_rest 125 = .ok (.aload_n 0, 1) := by decide +kernel
theorem dX6_rest_126 : decode cX6_rest 126 = .ok (.iload_n 1, 1) := by decide +kernel
theorem dX6_rest_127 : decode cX6_rest 127 = .ok (.iload_n 2, 1) := by decide +kernel
theorem dX6_rest_128 : decode cX6_rest 128 = .ok (.invokevirtual 334, 3) := by decide +kernel
theorem dX6_rest_131 : decode cX6_rest 131 = .ok (.aload_n 0, 1) := by decide +kernel
theorem dX6_rest_132 : decode cX6_rest 132 = .ok (.iload_n 1, 1) := by decide +kernel
theorem dX6_rest_133 : decode cX6_rest 133 = .ok (.iload_n 3, 1) := by decide +kernel
theorem dX6_rest_134 : decode cX6_rest 134 = .ok (.invokevirtual 334, 3) := by decide +kernel
theorem dX6_rest_137 : decode cX6_rest 137 = .ok (.return_, 1) := by decide +kernel
theorem dX6_one_0 : decode cX6_one 0 = .ok (.iload_n 3, 1) := by decide +kernel
theorem dX6_one_1 : decode cX6_one 1 = .ok (.ifCond .eq 18, 3) := by decide +kernel
theorem dX6_one_4 : decode cX6_one 4 = .ok (.aload_n 0, 1) := by decide +kernel
theorem dX6_one_5 : decode cX6_one 5 = .ok (.getfield 47, 3) := by decide +kernel
theorem dX6_one_8 : decode cX6_one 8 = .ok (.iload_n 1, 1) := by decide +kernel
theorem dX6_one_9 : decode cX6_one 9 = .ok (.iconst 0, 1) := by decide +kernel
theorem dX6_one_10 : decode cX6_one 10 = .ok (.iastore, 1) := by decide +kernel
theorem dX6_one_11 : decode cX6_one 11 = .ok (.aload_n 0, 1) := by decide +kernel
theorem dX6_one_12 : decode cX6_one 12 = .ok (.getfield 50, 3) := by decide +kernel
theorem dX6_one_15 : decode cX6_one 15 = .ok (.iload_n 1, 1) := by decide +kernel
theorem dX6_one_16 : decode cX6_one 16 = .ok (.iload_n 2, 1) := by decide +kernel
theorem dX6_one_17 : decode cX6_one 17 = .ok (.iastore, 1) := by decide +kernel
theorem dX6_one_18 : decode cX6_one 18 = .ok (.return_, 1) := by decide +kernel
theorem dX6_one_19 : decode cX6_one 19 = .ok (.aload_n 0, 1) := by decide +kernel
theorem dX6_one_20 : decode cX6_one 20 = .ok (.getfield 47, 3) := by decide +kernel
theorem dX6_one_23 : decode cX6_one 23 = .ok (.iload_n 1, 1) := by decide +kernel
theorem dX6_one_24 : decode cX6_one 24 = .ok (.iconst 5, 1) := by decide +kernel
theorem dX6_one_25 : decode cX6_one 25 = .ok (.iastore, 1) := by decide +kernel
theorem dX6_one_26 : decode cX6_one 26 = .ok (.aload_n 0, 1) := by decide +kernel
theorem dX6_one_27 : decode cX6_one 27 = .ok (.iconst 0, 1) := by decide +kernel
theorem dX6_one_28 : decode cX6_one 28 = .ok (.iload_n 2, 1) := by decide +kernel
theorem dX6_one_29 : decode cX6_one 29 = .ok (.invokevirtual 366, 3) := by decide +kernel
theorem dX6_one_32 : decode cX6_one 32 = .ok (.istore 4, 2) := by decide +kernel
theorem dX6_one_34 : decode cX6_one 34 = .ok (.aload_n 0, 1) := by decide +kernel
theorem dX6_one_35 : decode cX6_one 35 = .ok (.iconst 1, 1) := by decide +kernel
theorem dX6_one_36 : decode cX6_one 36 = .ok (.bipush (-3), 2) := by decide +kernel
theorem dX6_one_38 : decode cX6_one 38 = .ok (.invokevirtual 366, 3) := by decide +kernel
theorem dX6_one_41 : decode cX6_one 41 = .ok (.istore 5, 2) := by decide +kernel
theorem dX6_one_43 : decode cX6_one 43 = .ok (.aload_n 0, 1) := by decide +kernel
theorem dX6_one_44 : decode cX6_one 44 = .ok (.getfield 53, 3) := by decide +kernel
theorem dX6_one_47 : decode cX6_one 47 = .ok (.iload_n 1, 1) := by decide +kernel
theorem dX6_one_48 : decode cX6_one 48 = .ok (.aload_n 0, 1) := by decide +kernel
theorem dX6_one_49 : decode cX6_one 49 = .ok (.getfield 213, 3) := by decide +kernel
theorem dX6_one_52 : decode cX6_one 52 = .ok (.iastore, 1) := by decide +kernel
theorem dX6_one_53 : decode cX6_one 53 = .ok (.aload_n 0, 1) := by decide +kernel
theorem dX6_one_54 : decode cX6_one 54 = .ok (.iload_n 1, 1) := by decide +kernel
theorem dX6_one_55 : decode cX6_one 55 = .ok (.iload 4, 2) := by decide +kernel
theorem dX6_one_57 : decode cX6_one 57 = .ok (.invokevirtual 334, 3) := by decide +kernel
theorem dX6_one_60 : decode cX6_one 60 = .ok (.aload_n 0, 1) := by decide +kernel
theorem dX6_one_61 : decode cX6_one 61 = .ok (.iload_n 1, 1) := by decide +kernel
theorem dX6_one_62 : decode cX6_one 62 = .ok (.iload 5, 2) := by decide +kernel
theorem dX6_one_64 : decode cX6_one 64 = .ok (.invokevirtual 334, 3) := by decide +kernel
theorem dX6_one_67 : decode cX6_one 67 = .ok (.return_, 1) := by decide +kernel
theorem dX6_flower_0 : decode cX6_flower 0 = .ok (.aload_n 0, 1) := by decide +kernel
theorem dX6_flower_1 : decode cX6_flower 1 = .ok (.getfield 47, 3) := by decide +kernel
theorem dX6_flower_4 : decode cX6_flower 4 = .ok (.iload_n 1, 1) := by decide +kernel
theorem dX6_flower_5 : decode cX6_flower 5 = .ok (.iconst 5, 1) := by decide +kernel
theorem dX6_flower_6 : decode cX6_flower 6 = .ok (.iastore, 1) := by decide +kernel
theorem dX6_flower_7 : decode cX6_flower 7 = .ok (.aload_n 0, 1) := by decide +kernel
theorem dX6_flower_8 : decode cX6_flower 8 = .ok (.iconst 3, 1) := by decide +kernel
theorem dX6_flower_9 : decode cX6_flower 9 = .ok (.bipush (-3), 2) := by decide +kernel
theorem dX6_flower_11 : decode cX6_flower 11 = .ok (.invokevirtual 366, 3) := by decide +kernel
theorem dX6_flower_14 : decode cX6_flower 14 = .ok (.istore_n 2, 1) := by decide +kernel
theorem dX6_flower_15 : decode cX6_flower 15 = .ok (.aload_n 0, 1) := by decide +kernel
theorem dX6_flower_16 : decode cX6_flower 16 = .ok (.iconst 1, 1) := by decide +kernel
theorem dX6_flower_17 : decode cX6_flower 17 = .ok (.bipush (-3), 2) := by decide +kernel
theorem dX6_flower_19 : decode cX6_flower 19 = .ok (.invokevirtual 366, 3) := by decide +kernel
theorem dX6_flower_22 : decode cX6_flower 22 = .ok (.istore_n 3, 1) := by decide +kernel
theorem dX6_flower_23 : decode cX6_flower 23 = .ok (.aload_n 0, 1) := by decide +kernel
theorem dX6_flower_24 : decode cX6_flower 24 = .ok (.getfield 53, 3) := by decide +kernel
theorem dX6_flower_27 : decode cX6_flower 27 = .ok (.iload_n 1, 1) := by decide +kernel
theorem dX6_flower_28 : decode cX6_flower 28 = .ok (.aload_n 0, 1) := by decide +kernel
theorem dX6_flower_29 : decode cX6_flower 29 = .ok (.getfield 213, 3) := by decide +kernel
theorem dX6_flower_32 : decode cX6_flower 32 = .ok (.iastore, 1) := by decide +kernel
theorem dX6_flower_33 : decode cX6_flower 33 = .ok (.aload_n 0, 1) := by decide +kernel
theorem dX6_flower_34 : decode cX6_flower 34 = .ok (.iload_n 1, 1) := by decide +kernel
theorem dX6_flower_35 : decode cX6_flower 35 = .ok (.iload_n 2, 1) := by decide +kernel
theorem dX6_flower_36 : decode cX6_flower 36 = .ok (.invokevirtual 334, 3) := by decide +kernel
theorem dX6_flower_39 : decode cX6_flower 39 = .ok (.aload_n 0, 1) := by decide +kernel
theorem dX6_flower_40 : decode cX6_flower 40 = .ok (.iload_n 1, 1) := by decide +kernel
theorem dX6_flower_41 : decode cX6_flower 41 = .ok (.iload_n 3, 1) := by decide +kernel
theorem dX6_flower_42 : decode cX6_flower 42 = .ok (.invokevirtual 334, 3) := by decide +kernel
theorem dX6_flower_45 : decode cX6_flower 45 = .ok (.aload_n 0, 1) := by decide +kernel
theorem dX6_flower_46 : decode cX6_flower 46 = .ok (.getfield 210, 3) := by decide +kernel
theorem dX6_flower_49 : decode cX6_flower 49 = .ok (.istore 4, 2) := by decide +kernel
theorem dX6_flower_51 : decode cX6_flower 51 = .ok (.iconst 0, 1) := by decide +kernel
theorem dX6_flower_52 : decode cX6_flower 52 = .ok (.istore 5, 2) := by decide +kernel
theorem dX6_flower_54 : decode cX6_flower 54 = .ok (.iload 5, 2) := by decide +kernel
theorem dX6_flower_56 : decode cX6_flower 56 = .ok (.bipush 12, 2) := by decide +kernel
theorem dX6_flower_58 : decode cX6_flower 58 = .ok (.if_icmp .ge 28, 3) := by decide +kernel
theorem dX6_flower_61 : decode cX6_flower 61 = .ok (.aload_n 0, 1) := by decide +kernel
theorem dX6_flower_62 : decode cX6_flower 62 = .ok (.getfield 119, 3) := by decide +kernel
theorem dX6_flower_65 : decode cX6_flower 65 = .ok (.iload 5, 2) := by decide +kernel
theorem dX6_flower_67 : decode cX6_flower 67 = .ok (.baload, 1) := by decide +kernel
theorem dX6_flower_68 : decode cX6_flower 68 = .ok (.ifCond .eq 12, 3) := by decide +kernel
theorem dX6_flower_71 : decode cX6_flower 71 = .ok (.aload_n 0, 1) := by decide +kernel
theorem dX6_flower_72 : decode cX6_flower 72 = .ok (.iconst 0, 1) := by decide +kernel
theorem dX6_flower_73 : decode cX6_flower 73 = .ok (.iload 5, 2) := by decide +kernel
theorem dX6_flower_75 : decode cX6_flower 75 = .ok (.invokevirtual 366, 3) := by decide +kernel
theorem dX6_flower_78 : decode cX6_flower 78 = .ok (.istore 6, 2) := by decide +kernel
theorem dX6_flower_80 : decode cX6_flower 80 = .ok (.iinc 5 1, 3) := by decide +kernel
theorem dX6_flower_83 : decode cX6_flower 83 = .ok (.goto (-29), 3) := by decide +kernel
theorem dX6_flower_86 : decode cX6_flower 86 = .ok (.aload_n 0, 1) := by decide +kernel
theorem dX6_flower_87 : decode cX6_flower 87 = .ok (.getfield 53, 3) := by decide +kernel
theorem dX6_flower_90 : decode cX6_flower 90 = .ok (.iload_n 2, 1) := by decide +kernel
theorem dX6_flower_91 : decode cX6_flower 91 = .ok (.aload_n 0, 1) := by decide +kernel
theorem dX6_flower_92 : decode cX6_flower 92 = .ok (.getfield 213, 3) := by decide +kernel
theorem dX6_flower_95 : decode cX6_flower 95 = .ok (.iastore, 1) := by decide +kernel
theorem dX6_flower_96 : decode cX6_flower 96 = .ok (.iload 4, 2) := by decide +kernel
theorem dX6_flower_98 : decode cX6_flower 98 = .ok (.istore 5, 2) := by decide +kernel
theorem dX6_flower_100 : decode cX6_flower 100 = .ok (.iload 5, 2) := by decide +kernel
theorem dX6_flower_102 : decode cX6_flower 102 = .ok (.aload_n 0, 1) := by decide +kernel
theorem dX6_flower_103 : decode cX6_flower 103 = .ok (.getfield 210, 3) := by decide +kernel
theorem dX6_flower_106 : decode cX6_flower 106 = .ok (.if_icmp .ge 16, 3) := by decide +kernel
theorem dX6_flower_109 : decode cX6_flower 109 = .ok (.aload_n 0, 1) := by decide +kernel
theorem dX6_flower_110 : decode cX6_flower 110 = .ok (.iload_n 2, 1) := by decide +kernel
theorem dX6_flower_111 : decode cX6_flower 111 = .ok (.iload 5, 2) := by decide +kernel
theorem dX6_flower_113 : decode cX6_flower 113 = .ok (.invokevirtual 334, 3) := by decide +kernel
theorem dX6_flower_116 : decode cX6_flower 116 = .ok (.iinc 5 1, 3) := by decide +kernel
theorem dX6_flower_119 : decode cX6_flower 119 = .ok (.goto (-19), 3) := by decide +kernel
theorem dX6_flower_122 : decode cX6_flower 122 = .ok (.return_, 1) := by decide +kernel
theorem dX6_find_0 : decode cX6_find 0 = .ok (.aload_n 0, 1) := by decide +kernel
theorem dX6_find_1 : decode cX6_find 1 = .ok (.invokevirtual 219, 3) := by decide +kernel
theorem dX6_find_4 : decode cX6_find 4 = .ok (.aload_n 0, 1) := by decide +kernel
theorem dX6_find_5 : decode cX6_find 5 = .ok (.iconst 0, 1) := by decide +kernel
theorem dX6_find_6 : decode cX6_find 6 = .ok (.putfield 289, 3) := by decide +kernel
theorem dX6_find_9 : decode cX6_find 9 = .ok (.aload_n 0, 1) := by decide +kernel
theorem dX6_find_10 : decode cX6_find 10 = .ok (.iconst 0, 1) := by decide +kernel
theorem dX6_find_11 : decode cX6_find 11 = .ok (.putfield 292, 3) := by decide +kernel
theorem dX6_find_14 : decode cX6_find 14 = .ok (.aload_n 0, 1) := by decide +kernel
theorem dX6_find_15 : decode cX6_find 15 = .ok (.iconst 1, 1) := by decide +kernel
theorem dX6_find_16 : decode cX6_find 16 = .ok (.bipush (-3), 2) := by decide +kernel
theorem dX6_find_18 : decode cX6_find 18 = .ok (.invokevirtual 216, 3) := by decide +kernel
theorem dX6_find_21 : decode cX6_find 21 = .ok (.istore_n 1, 1) := by decide +kernel
theorem dX6_find_22 : decode cX6_find 22 = .ok (.aload_n 0, 1) := by decide +kernel
theorem dX6_find_23 : decode cX6_find 23 = .ok (.iload_n 1, 1) := by decide +kernel
theorem dX6_find_24 : decode cX6_find 24 = .ok (.invokevirtual 321, 3) := by decide +kernel
theorem dX6_find_27 : decode cX6_find 27 = .ok (.iconst 0, 1) := by decide +kernel
theorem dX6_find_28 : decode cX6_find 28 = .ok (.istore_n 2, 1) := by decide +kernel
theorem dX6_find_29 : decode cX6_find 29 = .ok (.iload_n 2, 1) := by decide +kernel
theorem dX6_find_30 : decode cX6_find 30 = .ok (.aload_n 0, 1) := by decide +kernel
theorem dX6_find_31 : decode cX6_find 31 = .ok (.getfield 155, 3) := by decide +kernel
theorem dX6_find_34 : decode cX6_find 34 = .ok (.if_icmp .ge 56, 3) := by decide +kernel
theorem dX6_find_37 : decode cX6_find 37 = .ok (.aload_n 0, 1) := by decide +kernel
theorem dX6_find_38 : decode cX6_find 38 = .ok (.getfield 13, 3) := by decide +kernel
theorem dX6_find_41 : decode cX6_find 41 = .ok (.iload_n 2, 1) := by decide +kernel
theorem dX6_find_42 : decode cX6_find 42 = .ok (.baload, 1) := by decide +kernel
theorem dX6_find_43 : decode cX6_find 43 = .ok (.ifCond .ne 41, 3) := by decide +kernel
theorem dX6_find_46 : decode cX6_find 46 = .ok (.aload_n 0, 1) := by decide +kernel
theorem dX6_find_47 : decode cX6_find 47 = .ok (.iload_n 1, 1) := by decide +kernel
theorem dX6_find_48 : decode cX6_find 48 = .ok (.invokevirtual 324, 3) := by decide +kernel
theorem dX6_find_51 : decode cX6_find 51 = .ok (.iconst 0, 1) := by decide +kernel
theorem dX6_find_52 : decode cX6_find 52 = .ok (.istore_n 3, 1) := by decide +kernel
theorem dX6_find_53 : decode cX6_find 53 = .ok (.iload_n 3, 1) := by decide +kernel
theorem dX6_find_54 : decode cX6_find 54 = .ok (.aload_n 0, 1) := by decide +kernel
theorem dX6_find_55 : decode cX6_find 55 = .ok (.getfield 7, 3) := by decide +kernel
theorem dX6_find_58 : decode cX6_find 58 = .ok (.iload_n 2, 1) := by decide +kernel
theorem dX6_find_59 : decode cX6_find 59 = .ok (.iaload, 1) := by decide +kernel
theorem dX6_find_60 : decode cX6_find 60 = .ok (.if_icmp .ge 24, 3) := by decide +kernel
theorem dX6_find_63 : decode cX6_find 63 = .ok (.aload_n 0, 1) := by decide +kernel
theorem dX6_find_64 : decode cX6_find 64 = .ok (.aload_n 0, 1) := by decide +kernel
theorem dX6_find_65 : decode cX6_find 65 = .ok (.getfield 17, 3) := by decide +kernel
theorem dX6_find_68 : decode cX6_find 68 = .ok (.bipush 6, 2) := by decide +kernel
theorem dX6_find_70 : decode cX6_find 70 = .ok (.iload_n 2, 1) := by decide +kernel
theorem dX6_find_71 : decode cX6_find 71 = .ok (.imul, 1) := by decide +kernel
theorem dX6_find_72 : decode cX6_find 72 = .ok (.iload_n 3, 1) := by decide +kernel
theorem dX6_find_73 : decode cX6_find 73 = .ok (.iadd, 1) := by decide +kernel
theorem dX6_find_74 : decode cX6_find 74 = .ok (.iaload, 1) := by decide +kernel
theorem dX6_find_75 : decode cX6_find 75 = .ok (.invokevirtual 327, 3) := by decide +kernel
theorem dX6_find_78 : decode cX6_find 78 = .ok (.iinc 3 1, 3) := by decide +kernel
theorem dX6_find_81 : decode cX6_find 81 = .ok (.goto (-28), 3) := by decide +kernel
theorem dX6_find_84 : decode cX6_find 84 = .ok (.iinc 2 1, 3) := by decide +kernel
theorem dX6_find_87 : decode cX6_find 87 = .ok (.goto (-58), 3) := by decide +kernel
theorem dX6_find_90 : decode cX6_find 90 = .ok (.iconst 0, 1) := by decide +kernel
theorem dX6_find_91 : decode cX6_find 91 = .ok (.istore_n 2, 1) := by decide +kernel
theorem dX6_find_92 : decode cX6_find 92 = .ok (.iload_n 2, 1) := by decide +kernel
theorem dX6_find_93 : decode cX6_find 93 = .ok (.aload_n 0, 1) := by decide +kernel
theorem dX6_find_94 : decode cX6_find 94 = .ok (.getfield 210, 3) := by decide +kernel
theorem dX6_find_97 : decode cX6_find 97 = .ok (.if_icmp .ge 32, 3) := by decide +kernel
theorem dX6_find_100 : decode cX6_find 100 = .ok (.aload_n 0, 1) := by decide +kernel
theorem dX6_find_101 : decode cX6_find 101 = .ok (.getfield 210, 3) := by decide +kernel
theorem dX6_find_104 : decode cX6_find 104 = .ok (.bipush 60, 2) := by decide +kernel
theorem dX6_find_106 : decode cX6_find 106 = .ok (.if_icmp .gt 23, 3) := by decide +kernel
theorem dX6_find_109 : decode cX6_find 109 = .ok (.aload_n 0, 1) := by decide +kernel
theorem dX6_find_110 : decode cX6_find 110 = .ok (.getfield 104, 3) := by decide +kernel
theorem dX6_find_113 : decode cX6_find 113 = .ok (.iload_n 2, 1) := by decide +kernel
theorem dX6_find_114 : decode cX6_find 114 = .ok (.iaload, 1) := by decide +kernel
theorem dX6_find_115 : decode cX6_find 115 = .ok (.ifCond .lt 8, 3) := by decide +kernel
theorem dX6_find_118 : decode cX6_find 118 = .ok (.aload_n 0, 1) := by decide +kernel
theorem dX6_find_119 : decode cX6_find 119 = .ok (.iload_n 2, 1) := by decide +kernel
theorem dX6_find_120 : decode cX6_find 120 = .ok (.invokevirtual 369, 3) := by decide +kernel
theorem dX6_find_123 : decode cX6_find 123 = .ok (.iinc 2 1, 3) := by decide +kernel
theorem dX6_find_126 : decode cX6_find 126 = .ok (.goto (-34), 3) := by decide +kernel
theorem dX6_find_129 : decode cX6_find 129 = .ok (.aload_n 0, 1) := by decide +kernel
theorem dX6_find_130 : decode cX6_find 130 = .ok (.getfield 210, 3) := by decide +kernel
theorem dX6_find_133 : decode cX6_find 133 = .ok (.bipush 60, 2) := by decide +kernel
theorem dX6_find_135 : decode cX6_find 135 = .ok (.if_icmp .le 8, 3) := by decide +kernel
theorem dX6_find_138 : decode cX6_find 138 = .ok (.bipush (-2), 2) := by decide +kernel
theorem dX6_find_140 : decode cX6_find 140 = .ok (.goto 8, 3) := by decide +kernel
theorem dX6_find_143 : decode cX6_find 143 = .ok (.aload_n 0, 1) := by decide +kernel
theorem dX6_find_144 : decode cX6_find 144 = .ok (.iload_n 1, 1) := by decide +kernel
theorem dX6_find_145 : decode cX6_find 145 = .ok (.invokevirtual 251, 3) := by decide +kernel
theorem dX6_find_148 : decode cX6_find 148 = .ok (.ireturn, 1) := by decide +kernel
theorem dX6_clearTimes_0 : decode cX6_clearTimes 0 = .ok (.aload_n 0, 1) := by decide +kernel
theorem dX6_clearTimes_1 : decode cX6_clearTimes 1 = .ok (.iconst 0, 1) := by decide +kernel
theorem dX6_clearTimes_2 : decode cX6_clearTimes 2 = .ok (.putfield 372, 3) := by decide +kernel
theorem dX6_clearTimes_5 : decode cX6_clearTimes 5 = .ok (.aload_n 0, 1) := by decide +kernel
theorem dX6_clearTimes_6 : decode cX6_clearTimes 6 = .ok (.iconst 0, 1) := by decide +kernel
theorem dX6_clearTimes_7 : decode cX6_clearTimes 7 = .ok (.putfield 375, 3) := by decide +kernel
theorem dX6_clearTimes_10 : decode cX6_clearTimes 10 = .ok (.aload_n 0, 1) := by decide +kernel
theorem dX6_clearTimes_11 : decode cX6_clearTimes 11 = .ok (.bipush (-3), 2) := by decide +kernel
theorem dX6_clearTimes_13 : decode cX6_clearTimes 13 = .ok (.putfield 378, 3) := by decide +kernel
theorem dX6_clearTimes_16 : decode cX6_clearTimes 16 = .ok (.aload_n 0, 1) := by decide +kernel
theorem dX6_clearTimes_17 : decode cX6_clearTimes 17 = .ok (.iconst 0, 1) := by decide +kernel
theorem dX6_clearTimes_18 : decode cX6_clearTimes 18 = .ok (.putfield 381, 3) := by decide +kernel
theorem dX6_clearTimes_21 : decode cX6_clearTimes 21 = .ok (.return_, 1) := by decide +kernel
theorem dX6_time_0 : decode cX6_time 0 = .ok (.iload_n 1, 1) := by decide +kernel
theorem dX6_time_1 : decode cX6_time 1 = .ok (.ifCond .lt 7, 3) := by decide +kernel
theorem dX6_time_4 : decode cX6_time 4 = .ok (.iload_n 2, 1) := by decide +kernel
theorem dX6_time_5 : decode cX6_time 5 = .ok (.ifCond .ge 14, 3) := by decide +kernel
theorem dX6_time_8 : decode cX6_time 8 = .ok (.aload_n 0, 1) := by decide +kernel
theorem dX6_time_9 : decode cX6_time 9 = .ok (.dup, 1) := by decide +kernel
theorem dX6_time_10 : decode cX6_time 10 = .ok (.getfield 381, 3) := by decide +kernel
theorem dX6_time_13 : decode cX6_time 13 = .ok (.iconst 1, 1) := by decide +kernel
theorem dX6_time_14 : decode cX6_time 14 = .ok (.iadd, 1) := by decide +kernel
theorem dX6_time_15 : decode cX6_time 15 = .ok (.putfield 381, 3) := by decide +kernel
theorem dX6_time_18 : decode cX6_time 18 = .ok (.return_, 1) := by decide +kernel
theorem dX6_time_19 : decode cX6_time 19 = .ok (.iload_n 2, 1) := by decide +kernel
theorem dX6_time_20 : decode cX6_time 20 = .ok (.iload_n 1, 1) := by decide +kernel
theorem dX6_time_21 : decode cX6_time 21 = .ok (.isub, 1) := by decide +kernel
theorem dX6_time_22 : decode cX6_time 22 = .ok (.istore_n 3, 1) := by decide +kernel
theorem dX6_time_23 : decode cX6_time 23 = .ok (.aload_n 0, 1) := by decide +kernel
theorem dX6_time_24 : decode cX6_time 24 = .ok (.aload_n 0, 1) := by decide +kernel
theorem dX6_time_25 : decode cX6_time 25 = .ok (.getfield 375, 3) := by decide +kernel
theorem dX6_time_28 : decode cX6_time 28 = .ok (.ifCond .eq 11, 3) := by decide +kernel
theorem dX6_time_31 : decode cX6_time 31 = .ok (.iload_n 3, 1) := by decide +kernel
theorem dX6_time_32 : decode cX6_time 32 = .ok (.aload_n 0, 1) := by decide +kernel
theorem dX6_time_33 : decode cX6_time 33 = .ok (.getfield 378, 3) := by decide +kernel
theorem dX6_time_36 : decode cX6_time 36 = .ok (.if_icmp .le 7, 3) := by decide +kernel
theorem dX6_time_39 : decode cX6_time 39 = .ok (.iload_n 3, 1) := by decide +kernel
theorem dX6_time_40 : decode cX6_time 40 = .ok (.goto 7, 3) := by decide +kernel
theorem dX6_time_43 : decode cX6_time 43 = .ok (.aload_n 0, 1) := by decide +kernel
theorem dX6_time_44 : decode cX6_time 44 = .ok (.getfield 378, 3) := by decide +kernel
theorem dX6_time_47 : decode cX6_time 47 = .ok (.putfield 378, 3) := by decide +kernel
theorem dX6_time_50 : decode cX6_time 50 = .ok (.aload_n 0, 1) := by decide +kernel
theorem dX6_time_51 : decode cX6_time 51 = .ok (.dup, 1) := by decide +kernel
theorem dX6_time_52 : decode cX6_time 52 = .ok (.getfield 375, 3) := by decide +kernel
theorem dX6_time_55 : decode cX6_time 55 = .ok (.iconst 1, 1) := by decide +kernel
theorem dX6_time_56 : decode cX6_time 56 = .ok (.iadd, 1) := by decide +kernel
theorem dX6_time_57 : decode cX6_time 57 = .ok (.putfield 375, 3) := by decide +kernel
theorem dX6_time_60 : decode cX6_time 60 = .ok (.aload_n 0, 1) := by decide +kernel
theorem dX6_time_61 : decode cX6_time 61 = .ok (.dup, 1) := by decide +kernel
theorem dX6_time_62 : decode cX6_time 62 = .ok (.getfield 372, 3) := by decide +kernel
theorem dX6_time_65 : decode cX6_time 65 = .ok (.iload_n 3, 1) := by decide +kernel
theorem dX6_time_66 : decode cX6_time 66 = .ok (.iadd, 1) := by decide +kernel
theorem dX6_time_67 : decode cX6_time 67 = .ok (.putfield 372, 3) := by decide +kernel
theorem dX6_time_70 : decode cX6_time 70 = .ok (.return_, 1) := by decide +kernel
theorem dX6_timeTold_0 : decode cX6_timeTold 0 = .ok (.iload_n 1, 1) := by decide +kernel
theorem dX6_timeTold_1 : decode cX6_timeTold 1 = .ok (.ifCond .ne 10, 3) := by decide +kernel
theorem dX6_timeTold_4 : decode cX6_timeTold 4 = .ok (.aload_n 0, 1) := by decide +kernel
theorem dX6_timeTold_5 : decode cX6_timeTold 5 = .ok (.getfield 372, 3) := by decide +kernel
theorem dX6_timeTold_8 : decode cX6_timeTold 8 = .ok (.goto 31, 3) := by decide +kernel
theorem dX6_timeTold_11 : decode cX6_timeTold 11 = .ok (.iload_n 1, 1) := by decide +kernel
theorem dX6_timeTold_12 : decode cX6_timeTold 12 = .ok (.iconst 1, 1) := by decide +kernel
theorem dX6_timeTold_13 : decode cX6_timeTold 13 = .ok (.if_icmp .ne 10, 3) := by decide +kernel
theorem dX6_timeTold_16 : decode cX6_timeTold 16 = .ok (.aload_n 0, 1) := by decide +kernel
theorem dX6_timeTold_17 : decode cX6_timeTold 17 = .ok (.getfield 375, 3) := by decide +kernel
theorem dX6_timeTold_20 : decode cX6_timeTold 20 = .ok (.goto 19, 3) := by decide +kernel
theorem dX6_timeTold_23 : decode cX6_timeTold 23 = .ok (.iload_n 1, 1) := by decide +kernel
theorem dX6_timeTold_24 : decode cX6_timeTold 24 = .ok (.iconst 2, 1) := by decide +kernel
theorem dX6_timeTold_25 : decode cX6_timeTold 25 = .ok (.if_icmp .ne 10, 3) := by decide +kernel
theorem dX6_timeTold_28 : decode cX6_timeTold 28 = .ok (.aload_n 0, 1) := by decide +kernel
theorem dX6_timeTold_29 : decode cX6_timeTold 29 = .ok (.getfield 378, 3) := by decide +kernel
theorem dX6_timeTold_32 : decode cX6_timeTold 32 = .ok (.goto 7, 3) := by decide +kernel
theorem dX6_timeTold_35 : decode cX6_timeTold 35 = .ok (.aload_n 0, 1) := by decide +kernel
theorem dX6_timeTold_36 : decode cX6_timeTold 36 = .ok (.getfield 381, 3) := by decide +kernel
theorem dX6_timeTold_39 : decode cX6_timeTold 39 = .ok (.ireturn, 1) := by decide +kernel
theorem dX6_work_0 : decode cX6_work 0 = .ok (.iload_n 1, 1) := by decide +kernel
theorem dX6_work_1 : decode cX6_work 1 = .ok (.invokestatic 173, 3) := by decide +kernel
theorem dX6_work_4 : decode cX6_work 4 = .ok (.ifCond .eq 15, 3) := by decide +kernel
theorem dX6_work_7 : decode cX6_work 7 = .ok (.iload_n 2, 1) := by decide +kernel
theorem dX6_work_8 : decode cX6_work 8 = .ok (.i2l, 1) := by decide +kernel
theorem dX6_work_9 : decode cX6_work 9 = .ok (.lconst 0, 1) := by decide +kernel
theorem dX6_work_10 : decode cX6_work 10 = .ok (.ldc2_w 181, 3) := by decide +kernel
theorem dX6_work_13 : decode cX6_work 13 = .ok (.invokestatic 159, 3) := by decide +kernel
theorem dX6_work_16 : decode cX6_work 16 = .ok (.ifCond .ne 5, 3) := by decide +kernel
theorem dX6_work_19 : decode cX6_work 19 = .ok (.iconst (-1), 1) := by decide +kernel
theorem dX6_work_20 : decode cX6_work 20 = .ok (.ireturn, 1) := by decide +kernel
theorem dX6_work_21 : decode cX6_work 21 = .ok (.aload_n 0, 1) := by decide +kernel
theorem dX6_work_22 : decode cX6_work 22 = .ok (.invokevirtual 384, 3) := by decide +kernel
theorem dX6_work_25 : decode cX6_work 25 = .ok (.iconst 0, 1) := by decide +kernel
theorem dX6_work_26 : decode cX6_work 26 = .ok (.istore_n 3, 1) := by decide +kernel
theorem dX6_work_27 : decode cX6_work 27 = .ok (.iload_n 3, 1) := by decide +kernel
theorem dX6_work_28 : decode cX6_work 28 = .ok (.sipush 144, 3) := by decide +kernel
theorem dX6_work_31 : decode cX6_work 31 = .ok (.if_icmp .ge 44, 3) := by decide +kernel
theorem dX6_work_34 : decode cX6_work 34 = .ok (.aload_n 0, 1) := by decide +kernel
theorem dX6_work_35 : decode cX6_work 35 = .ok (.iload_n 3, 1) := by decide +kernel
theorem dX6_work_36 : decode cX6_work 36 = .ok (.iconst 0, 1) := by decide +kernel
theorem dX6_work_37 : decode cX6_work 37 = .ok (.invokevirtual 183, 3) := by decide +kernel
theorem dX6_work_40 : decode cX6_work 40 = .ok (.ifCond .eq 29, 3) := by decide +kernel
theorem dX6_work_43 : decode cX6_work 43 = .ok (.aload_n 0, 1) := by decide +kernel
theorem dX6_work_44 : decode cX6_work 44 = .ok (.getfield 17, 3) := by decide +kernel
theorem dX6_work_47 : decode cX6_work 47 = .ok (.iload_n 3, 1) := by decide +kernel
theorem dX6_work_48 : decode cX6_work 48 = .ok (.iaload, 1) := by decide +kernel
theorem dX6_work_49 : decode cX6_work 49 = .ok (.iload_n 1, 1) := by decide +kernel
theorem dX6_work_50 : decode cX6_work 50 = .ok (.if_icmp .ne 19, 3) := by decide +kernel
theorem dX6_work_53 : decode cX6_work 53 = .ok (.aload_n 0, 1) := by decide +kernel
theorem dX6_work_54 : decode cX6_work 54 = .ok (.aload_n 0, 1) := by decide +kernel
theorem dX6_work_55 : decode cX6_work 55 = .ok (.getfield 23, 3) := by decide +kernel
theorem dX6_work_58 : decode cX6_work 58 = .ok (.iload_n 3, 1) := by decide +kernel
theorem dX6_work_59 : decode cX6_work 59 = .ok (.iaload, 1) := by decide +kernel
theorem dX6_work_60 : decode cX6_work 60 = .ok (.aload_n 0, 1) := by decide +kernel
theorem dX6_work_61 : decode cX6_work 61 = .ok (.getfield 26, 3) := by decide +kernel
theorem dX6_work_64 : decode cX6_work 64 = .ok (.iload_n 3, 1) := by decide +kernel
theorem dX6_work_65 : decode cX6_work 65 = .ok (.iaload, 1) := by decide +kernel
theorem dX6_work_66 : decode cX6_work 66 = .ok (.invokevirtual 387, 3) := by decide +kernel
theorem dX6_work_69 : decode cX6_work 69 = .ok (.iinc 3 1, 3) := by decide +kernel
theorem dX6_work_72 : decode cX6_work 72 = .ok (.goto (-45), 3) := by decide +kernel
theorem dX6_work_75 : decode cX6_work 75 = .ok (.aload_n 0, 1) := by decide +kernel
theorem dX6_work_76 : decode cX6_work 76 = .ok (.iload_n 2, 1) := by decide +kernel
theorem dX6_work_77 : decode cX6_work 77 = .ok (.invokevirtual 390, 3) := by decide +kernel
theorem dX6_work_80 : decode cX6_work 80 = .ok (.ireturn, 1) := by decide +kernel
theorem dX6_layWaits_0 : decode cX6_layWaits 0 = .ok (.aload_n 0, 1) := by decide +kernel
theorem dX6_layWaits_1 : decode cX6_layWaits 1 = .ok (.invokevirtual 384, 3) := by decide +kernel
theorem dX6_layWaits_4 : decode cX6_layWaits 4 = .ok (.iconst 0, 1) := by decide +kernel
theorem dX6_layWaits_5 : decode cX6_layWaits 5 = .ok (.istore_n 3, 1) := by decide +kernel
theorem dX6_layWaits_6 : decode cX6_layWaits 6 = .ok (.iload_n 3, 1) := by decide +kernel
theorem dX6_layWaits_7 : decode cX6_layWaits 7 = .ok (.sipush 144, 3) := by decide +kernel
theorem dX6_layWaits_10 : decode cX6_layWaits 10 = .ok (.if_icmp .ge 58, 3) := by decide +kernel
theorem dX6_layWaits_13 : decode cX6_layWaits 13 = .ok (.aload_n 0, 1) := by decide +kernel
theorem dX6_layWaits_14 : decode cX6_layWaits 14 = .ok (.iload_n 3, 1) := by decide +kernel
theorem dX6_layWaits_15 : decode cX6_layWaits 15 = .ok (.iconst 1, 1) := by decide +kernel
theorem dX6_layWaits_16 : decode cX6_layWaits 16 = .ok (.invokevirtual 183, 3) := by decide +kernel
theorem dX6_layWaits_19 : decode cX6_layWaits 19 = .ok (.ifCond .eq 43, 3) := by decide +kernel
theorem dX6_layWaits_22 : decode cX6_layWaits 22 = .ok (.aload_n 0, 1) := by decide +kernel
theorem dX6_layWaits_23 : decode cX6_layWaits 23 = .ok (.getfield 17, 3) := by decide +kernel
theorem dX6_layWaits_26 : decode cX6_layWaits 26 = .ok (.iload_n 3, 1) := by decide +kernel
theorem dX6_layWaits_27 : decode cX6_layWaits 27 = .ok (.iaload, 1) := by decide +kernel
theorem dX6_layWaits_28 : decode cX6_layWaits 28 = .ok (.iload_n 1, 1) := by decide +kernel
theorem dX6_layWaits_29 : decode cX6_layWaits 29 = .ok (.if_icmp .ne 33, 3) := by decide +kernel
theorem dX6_layWaits_32 : decode cX6_layWaits 32 = .ok (.aload_n 0, 1) := by decide +kernel
theorem dX6_layWaits_33 : decode cX6_layWaits 33 = .ok (.getfield 17, 3) := by decide +kernel
theorem dX6_layWaits_36 : decode cX6_layWaits 36 = .ok (.iload_n 3, 1) := by decide +kernel
theorem dX6_layWaits_37 : decode cX6_layWaits 37 = .ok (.iconst 1, 1) := by decide +kernel
theorem dX6_layWaits_38 : decode cX6_layWaits 38 = .ok (.isub, 1) := by decide +kernel
theorem dX6_layWaits_39 : decode cX6_layWaits 39 = .ok (.iaload, 1) := by decide +kernel
theorem dX6_layWaits_40 : decode cX6_layWaits 40 = .ok (.iload_n 2, 1) := by decide +kernel
theorem dX6_layWaits_41 : decode cX6_layWaits 41 = .ok (.if_icmp .ne 21, 3) := by decide +kernel
theorem dX6_layWaits_44 : decode cX6_layWaits 44 = .ok (.aload_n 0, 1) := by decide +kernel
theorem dX6_layWaits_45 : decode cX6_layWaits 45 = .ok (.aload_n 0, 1) := by decide +kernel
theorem dX6_layWaits_46 : decode cX6_layWaits 46 = .ok (.getfield 26, 3) := by decide +kernel
theorem dX6_layWaits_49 : decode cX6_layWaits 49 = .ok (.iload_n 3, 1) := by decide +kernel
theorem dX6_layWaits_50 : decode cX6_layWaits 50 = .ok (.iconst 1, 1) := by decide +kernel
theorem dX6_layWaits_51 : decode cX6_layWaits 51 = .ok (.isub, 1) := by decide +kernel
theorem dX6_layWaits_52 : decode cX6_layWaits 52 = .ok (.iaload, 1) := by decide +kernel
theorem dX6_layWaits_53 : decode cX6_layWaits 53 = .ok (.aload_n 0, 1) := by decide +kernel
theorem dX6_layWaits_54 : decode cX6_layWaits 54 = .ok (.getfield 23, 3) := by decide +kernel
theorem dX6_layWaits_57 : decode cX6_layWaits 57 = .ok (.iload_n 3, 1) := by decide +kernel
theorem dX6_layWaits_58 : decode cX6_layWaits 58 = .ok (.iaload, 1) := by decide +kernel
theorem dX6_layWaits_59 : decode cX6_layWaits 59 = .ok (.invokevirtual 387, 3) := by decide +kernel
theorem dX6_layWaits_62 : decode cX6_layWaits 62 = .ok (.iinc 3 1, 3) := by decide +kernel
theorem dX6_layWaits_65 : decode cX6_layWaits 65 = .ok (.goto (-59), 3) := by decide +kernel
theorem dX6_layWaits_68 : decode cX6_layWaits 68 = .ok (.return_, 1) := by decide +kernel
theorem dX6_lag_0 : decode cX6_lag 0 = .ok (.iload_n 1, 1) := by decide +kernel
theorem dX6_lag_1 : decode cX6_lag 1 = .ok (.invokestatic 173, 3) := by decide +kernel
theorem dX6_lag_4 : decode cX6_lag 4 = .ok (.ifCond .eq 22, 3) := by decide +kernel
theorem dX6_lag_7 : decode cX6_lag 7 = .ok (.iload_n 2, 1) := by decide +kernel
theorem dX6_lag_8 : decode cX6_lag 8 = .ok (.invokestatic 173, 3) := by decide +kernel
theorem dX6_lag_11 : decode cX6_lag 11 = .ok (.ifCond .eq 15, 3) := by decide +kernel
theorem dX6_lag_14 : decode cX6_lag 14 = .ok (.iload_n 3, 1) := by decide +kernel
theorem dX6_lag_15 : decode cX6_lag 15 = .ok (.i2l, 1) := by decide +kernel
theorem dX6_lag_16 : decode cX6_lag 16 = .ok (.lconst 0, 1) := by decide +kernel
theorem dX6_lag_17 : decode cX6_lag 17 = .ok (.ldc2_w 181, 3) := by decide +kernel
theorem dX6_lag_20 : decode cX6_lag 20 = .ok (.invokestatic 159, 3) := by decide +kernel
theorem dX6_lag_23 : decode cX6_lag 23 = .ok (.ifCond .ne 5, 3) := by decide +kernel
theorem dX6_lag_26 : decode cX6_lag 26 = .ok (.iconst (-1), 1) := by decide +kernel
theorem dX6_lag_27 : decode cX6_lag 27 = .ok (.ireturn, 1) := by decide +kernel
theorem dX6_lag_28 : decode cX6_lag 28 = .ok (.aload_n 0, 1) := by decide +kernel
theorem dX6_lag_29 : decode cX6_lag 29 = .ok (.iload_n 1, 1) := by decide +kernel
theorem dX6_lag_30 : decode cX6_lag 30 = .ok (.iload_n 2, 1) := by decide +kernel
theorem dX6_lag_31 : decode cX6_lag 31 = .ok (.invokevirtual 393, 3) := by decide +kernel
theorem dX6_lag_34 : decode cX6_lag 34 = .ok (.aload_n 0, 1) := by decide +kernel
theorem dX6_lag_35 : decode cX6_lag 35 = .ok (.iload_n 3, 1) := by decide +kernel
theorem dX6_lag_36 : decode cX6_lag 36 = .ok (.invokevirtual 390, 3) := by decide +kernel
theorem dX6_lag_39 : decode cX6_lag 39 = .ok (.ireturn, 1) := by decide +kernel
theorem dX6_slow_0 : decode cX6_slow 0 = .ok (.iload_n 1, 1) := by decide +kernel
theorem dX6_slow_1 : decode cX6_slow 1 = .ok (.ifCond .ge 5, 3) := by decide +kernel
theorem dX6_slow_4 : decode cX6_slow 4 = .ok (.iconst (-1), 1) := by decide +kernel
theorem dX6_slow_5 : decode cX6_slow 5 = .ok (.ireturn, 1) := by decide +kernel
theorem dX6_slow_6 : decode cX6_slow 6 = .ok (.iconst 0, 1) := by decide +kernel
theorem dX6_slow_7 : decode cX6_slow 7 = .ok (.istore_n 2, 1) := by decide +kernel
theorem dX6_slow_8 : decode cX6_slow 8 = .ok (.iload_n 2, 1) := by decide +kernel
theorem dX6_slow_9 : decode cX6_slow 9 = .ok (.sipush 144, 3) := by decide +kernel
theorem dX6_slow_12 : decode cX6_slow 12 = .ok (.if_icmp .ge 49, 3) := by decide +kernel
theorem dX6_slow_15 : decode cX6_slow 15 = .ok (.aload_n 0, 1) := by decide +kernel
theorem dX6_slow_16 : decode cX6_slow 16 = .ok (.iload_n 2, 1) := by decide +kernel
theorem dX6_slow_17 : decode cX6_slow 17 = .ok (.bipush 12, 2) := by decide +kernel
theorem dX6_slow_19 : decode cX6_slow 19 = .ok (.idiv, 1) := by decide +kernel
theorem dX6_slow_20 : decode cX6_slow 20 = .ok (.iload_n 2, 1) := by decide +kernel
theorem dX6_slow_21 : decode cX6_slow 21 = .ok (.bipush 12, 2) := by decide +kernel
theorem dX6_slow_23 : decode cX6_slow 23 = .ok (.irem, 1) := by decide +kernel
theorem dX6_slow_24 : decode cX6_slow 24 = .ok (.invokevirtual 393, 3) := by decide +kernel
theorem dX6_slow_27 : decode cX6_slow 27 = .ok (.aload_n 0, 1) := by decide +kernel
theorem dX6_slow_28 : decode cX6_slow 28 = .ok (.getfield 152, 3) := by decide +kernel
theorem dX6_slow_31 : decode cX6_slow 31 = .ok (.iload_n 2, 1) := by decide +kernel
theorem dX6_slow_32 : decode cX6_slow 32 = .ok (.aload_n 0, 1) := by decide +kernel
theorem dX6_slow_33 : decode cX6_slow 33 = .ok (.getfield 375, 3) := by decide +kernel
theorem dX6_slow_36 : decode cX6_slow 36 = .ok (.ifCond .le 7, 3) := by decide +kernel
theorem dX6_slow_39 : decode cX6_slow 39 = .ok (.iconst 1, 1) := by decide +kernel
theorem dX6_slow_40 : decode cX6_slow 40 = .ok (.goto 4, 3) := by decide +kernel
theorem dX6_slow_43 : decode cX6_slow 43 = .ok (.iconst 0, 1) := by decide +kernel
theorem dX6_slow_44 : decode cX6_slow 44 = .ok (.bastore, 1) := by decide +kernel
theorem dX6_slow_45 : decode cX6_slow 45 = .ok (.aload_n 0, 1) := by decide +kernel
theorem dX6_slow_46 : decode cX6_slow 46 = .ok (.getfield 149, 3) := by decide +kernel
theorem dX6_slow_49 : decode cX6_slow 49 = .ok (.iload_n 2, 1) := by decide +kernel
theorem dX6_slow_50 : decode cX6_slow 50 = .ok (.aload_n 0, 1) := by decide +kernel
theorem dX6_slow_51 : decode cX6_slow 51 = .ok (.getfield 372, 3) := by decide +kernel
theorem dX6_slow_54 : decode cX6_slow 54 = .ok (.iastore, 1) := by decide +kernel
theorem dX6_slow_55 : decode cX6_slow 55 = .ok (.iinc 2 1, 3) := by decide +kernel
theorem dX6_slow_58 : decode cX6_slow 58 = .ok (.goto (-50), 3) := by decide +kernel
theorem dX6_slow_61 : decode cX6_slow 61 = .ok (.bipush (-3), 2) := by decide +kernel
theorem dX6_slow_63 : decode cX6_slow 63 = .ok (.istore_n 2, 1) := by decide +kernel
theorem dX6_slow_64 : decode cX6_slow 64 = .ok (.iconst 0, 1) := by decide +kernel
theorem dX6_slow_65 : decode cX6_slow 65 = .ok (.istore_n 3, 1) := by decide +kernel
theorem dX6_slow_66 : decode cX6_slow 66 = .ok (.iload_n 3, 1) := by decide +kernel
theorem dX6_slow_67 : decode cX6_slow 67 = .ok (.iload_n 1, 1) := by decide +kernel
theorem dX6_slow_68 : decode cX6_slow 68 = .ok (.if_icmp .gt 87, 3) := by decide +kernel
theorem dX6_slow_71 : decode cX6_slow 71 = .ok (.iload_n 3, 1) := by decide +kernel
theorem dX6_slow_72 : decode cX6_slow 72 = .ok (.sipush 144, 3) := by decide +kernel
theorem dX6_slow_75 : decode cX6_slow 75 = .ok (.if_icmp .gt 80, 3) := by decide +kernel
theorem dX6_slow_78 : decode cX6_slow 78 = .ok (.bipush (-3), 2) := by decide +kernel
theorem dX6_slow_80 : decode cX6_slow 80 = .ok (.istore_n 2, 1) := by decide +kernel
theorem dX6_slow_81 : decode cX6_slow 81 = .ok (.iconst 0, 1) := by decide +kernel
theorem dX6_slow_82 : decode cX6_slow 82 = .ok (.istore 4, 2) := by decide +kernel
theorem dX6_slow_84 : decode cX6_slow 84 = .ok (.iload 4, 2) := by decide +kernel
theorem dX6_slow_86 : decode cX6_slow 86 = .ok (.sipush 144, 3) := by decide +kernel
theorem dX6_slow_89 : decode cX6_slow 89 = .ok (.if_icmp .ge 44, 3) := by decide +kernel
theorem dX6_slow_92 : decode cX6_slow 92 = .ok (.aload_n 0, 1) := by decide +kernel
theorem dX6_slow_93 : decode cX6_slow 93 = .ok (.getfield 152, 3) := by decide +kernel
theorem dX6_slow_96 : decode cX6_slow 96 = .ok (.iload 4, 2) := by decide +kernel
theorem dX6_slow_98 : decode cX6_slow 98 = .ok (.baload, 1) := by decide +kernel
theorem dX6_slow_99 : decode cX6_slow 99 = .ok (.ifCond .eq 28, 3) := by decide +kernel
theorem dX6_slow_102 : decode cX6_slow 102 = .ok (.iload_n 2, 1) := by decide +kernel
theorem dX6_slow_103 : decode cX6_slow 103 = .ok (.bipush (-3), 2) := by decide +kernel
theorem dX6_slow_105 : decode cX6_slow 105 = .ok (.if_icmp .eq 19, 3) := by decide +kernel
theorem dX6_slow_108 : decode cX6_slow 108 = .ok (.aload_n 0, 1) := by decide +kernel
theorem dX6_slow_109 : decode cX6_slow 109 = .ok (.getfield 149, 3) := by decide +kernel
theorem dX6_slow_112 : decode cX6_slow 112 = .ok (.iload 4, 2) := by decide +kernel
theorem dX6_slow_114 : decode cX6_slow 114 = .ok (.iaload, 1) := by decide +kernel
theorem dX6_slow_115 : decode cX6_slow 115 = .ok (.aload_n 0, 1) := by decide +kernel
theorem dX6_slow_116 : decode cX6_slow 116 = .ok (.getfield 149, 3) := by decide +kernel
theorem dX6_slow_119 : decode cX6_slow 119 = .ok (.iload_n 2, 1) := by decide +kernel
theorem dX6_slow_120 : decode cX6_slow 120 = .ok (.iaload, 1) := by decide +kernel
theorem dX6_slow_121 : decode cX6_slow 121 = .ok (.if_icmp .le 6, 3) := by decide +kernel
theorem dX6_slow_124 : decode cX6_slow 124 = .ok (.iload 4, 2) := by decide +kernel
theorem dX6_slow_126 : decode cX6_slow 126 = .ok (.istore_n 2, 1) := by decide +kernel
theorem dX6_slow_127 : decode cX6_slow 127 = .ok (.iinc 4 1, 3) := by decide +kernel
theorem dX6_slow_130 : decode cX6_slow 130 = .ok (.goto (-46), 3) := by decide +kernel
theorem dX6_slow_133 : decode cX6_slow 133 = .ok (.iload_n 2, 1) := by decide +kernel
theorem dX6_slow_134 : decode cX6_slow 134 = .ok (.bipush (-3), 2) := by decide +kernel
theorem dX6_slow_136 : decode cX6_slow 136 = .ok (.if_icmp .ne 6, 3) := by decide +kernel
theorem dX6_slow_139 : decode cX6_slow 139 = .ok (.bipush (-3), 2) := by decide +kernel
theorem dX6_slow_141 : decode cX6_slow 141 = .ok (.ireturn, 1) := by decide +kernel
theorem dX6_slow_142 : decode cX6_slow 142 = .ok (.aload_n 0, 1) := by decide +kernel
theorem dX6_slow_143 : decode cX6_slow 143 = .ok (.getfield 152, 3) := by decide +kernel
theorem dX6_slow_146 : decode cX6_slow 146 = .ok (.iload_n 2, 1) := by decide +kernel
theorem dX6_slow_147 : decode cX6_slow 147 = .ok (.iconst 0, 1) := by decide +kernel
theorem dX6_slow_148 : decode cX6_slow 148 = .ok (.bastore, 1) := by decide +kernel
theorem dX6_slow_149 : decode cX6_slow 149 = .ok (.iinc 3 1, 3) := by decide +kernel
theorem dX6_slow_152 : decode cX6_slow 152 = .ok (.goto (-86), 3) := by decide +kernel
theorem dX6_slow_155 : decode cX6_slow 155 = .ok (.iload_n 2, 1) := by decide +kernel
theorem dX6_slow_156 : decode cX6_slow 156 = .ok (.ireturn, 1) := by decide +kernel
theorem dX6_passes_0 : decode cX6_passes 0 = .ok (.iload_n 1, 1) := by decide +kernel
theorem dX6_passes_1 : decode cX6_passes 1 = .ok (.i2l, 1) := by decide +kernel
theorem dX6_passes_2 : decode cX6_passes 2 = .ok (.lconst 0, 1) := by decide +kernel
theorem dX6_passes_3 : decode cX6_passes 3 = .ok (.ldc2_w 176, 3) := by decide +kernel
theorem dX6_passes_6 : decode cX6_passes 6 = .ok (.invokestatic 159, 3) := by decide +kernel
theorem dX6_passes_9 : decode cX6_passes 9 = .ok (.ifCond .eq 15, 3) := by decide +kernel
theorem dX6_passes_12 : decode cX6_passes 12 = .ok (.iload_n 2, 1) := by decide +kernel
theorem dX6_passes_13 : decode cX6_passes 13 = .ok (.i2l, 1) := by decide +kernel
theorem dX6_passes_14 : decode cX6_passes 14 = .ok (.lconst 0, 1) := by decide +kernel
theorem dX6_passes_15 : decode cX6_passes 15 = .ok (.ldc2_w 176, 3) := by decide +kernel
theorem dX6_passes_18 : decode cX6_passes 18 = .ok (.invokestatic 159, 3) := by decide +kernel
theorem dX6_passes_21 : decode cX6_passes 21 = .ok (.ifCond .ne 5, 3) := by decide +kernel
theorem dX6_passes_24 : decode cX6_passes 24 = .ok (.iconst (-1), 1) := by decide +kernel
theorem dX6_passes_25 : decode cX6_passes 25 = .ok (.ireturn, 1) := by decide +kernel
theorem dX6_passes_26 : decode cX6_passes 26 = .ok (.iconst 0, 1) := by decide +kernel
theorem dX6_passes_27 : decode cX6_passes 27 = .ok (.istore_n 3, 1) := by decide +kernel
theorem dX6_passes_28 : decode cX6_passes 28 = .ok (.iconst 0, 1) := by decide +kernel
theorem dX6_passes_29 : decode cX6_passes 29 = .ok (.istore 4, 2) := by decide +kernel
theorem dX6_passes_31 : decode cX6_passes 31 = .ok (.iload 4, 2) := by decide +kernel
theorem dX6_passes_33 : decode cX6_passes 33 = .ok (.sipush 144, 3) := by decide +kernel
theorem dX6_passes_36 : decode cX6_passes 36 = .ok (.if_icmp .ge 51, 3) := by decide +kernel
theorem dX6_passes_39 : decode cX6_passes 39 = .ok (.iload_n 3, 1) := by decide +kernel
theorem dX6_passes_40 : decode cX6_passes 40 = .ok (.aload_n 0, 1) := by decide +kernel
theorem dX6_passes_41 : decode cX6_passes 41 = .ok (.iload 4, 2) := by decide +kernel
theorem dX6_passes_43 : decode cX6_passes 43 = .ok (.iconst 1, 1) := by decide +kernel
theorem dX6_passes_44 : decode cX6_passes 44 = .ok (.invokevirtual 183, 3) := by decide +kernel
theorem dX6_passes_47 : decode cX6_passes 47 = .ok (.ifCond .eq 31, 3) := by decide +kernel
theorem dX6_passes_50 : decode cX6_passes 50 = .ok (.aload_n 0, 1) := by decide +kernel
theorem dX6_passes_51 : decode cX6_passes 51 = .ok (.getfield 20, 3) := by decide +kernel
theorem dX6_passes_54 : decode cX6_passes 54 = .ok (.iload 4, 2) := by decide +kernel
theorem dX6_passes_56 : decode cX6_passes 56 = .ok (.iaload, 1) := by decide +kernel
theorem dX6_passes_57 : decode cX6_passes 57 = .ok (.iload_n 2, 1) := by decide +kernel
theorem dX6_passes_58 : decode cX6_passes 58 = .ok (.if_icmp .ne 20, 3) := by decide +kernel
theorem dX6_passes_61 : decode cX6_passes 61 = .ok (.aload_n 0, 1) := by decide +kernel
theorem dX6_passes_62 : decode cX6_passes 62 = .ok (.getfield 20, 3) := by decide +kernel
theorem dX6_passes_65 : decode cX6_passes 65 = .ok (.iload 4, 2) := by decide +kernel
theorem dX6_passes_67 : decode cX6_passes 67 = .ok (.iconst 1, 1) := by decide +kernel
theorem dX6_passes_68 : decode cX6_passes 68 = .ok (.isub, 1) := by decide +kernel
theorem dX6_passes_69 : decode cX6_passes 69 = .ok (.iaload, 1) := by decide +kernel
theorem dX6_passes_70 : decode cX6_passes 70 = .ok (.iload_n 1, 1) := by decide +kernel
theorem dX6_passes_71 : decode cX6_passes 71 = .ok (.if_icmp .ne 7, 3) := by decide +kernel
theorem dX6_passes_74 : decode cX6_passes 74 = .ok (.iconst 1, 1) := by decide +kernel
theorem dX6_passes_75 : decode cX6_passes 75 = .ok (.goto 4, 3) := by decide +kernel
theorem dX6_passes_78 : decode cX6_passes 78 = .ok (.iconst 0, 1) := by decide +kernel
theorem dX6_passes_79 : decode cX6_passes 79 = .ok (.iadd, 1) := by decide +kernel
theorem dX6_passes_80 : decode cX6_passes 80 = .ok (.istore_n 3, 1) := by decide +kernel
theorem dX6_passes_81 : decode cX6_passes 81 = .ok (.iinc 4 1, 3) := by decide +kernel
theorem dX6_passes_84 : decode cX6_passes 84 = .ok (.goto (-53), 3) := by decide +kernel
theorem dX6_passes_87 : decode cX6_passes 87 = .ok (.iload_n 3, 1) := by decide +kernel
theorem dX6_passes_88 : decode cX6_passes 88 = .ok (.ireturn, 1) := by decide +kernel
theorem dX6_areLike_0 : decode cX6_areLike 0 = .ok (.aload_n 0, 1) := by decide +kernel
theorem dX6_areLike_1 : decode cX6_areLike 1 = .ok (.getfield 7, 3) := by decide +kernel
theorem dX6_areLike_4 : decode cX6_areLike 4 = .ok (.iload_n 1, 1) := by decide +kernel
theorem dX6_areLike_5 : decode cX6_areLike 5 = .ok (.iaload, 1) := by decide +kernel
theorem dX6_areLike_6 : decode cX6_areLike 6 = .ok (.aload_n 0, 1) := by decide +kernel
theorem dX6_areLike_7 : decode cX6_areLike 7 = .ok (.getfield 7, 3) := by decide +kernel
theorem dX6_areLike_10 : decode cX6_areLike 10 = .ok (.iload_n 2, 1) := by decide +kernel
theorem dX6_areLike_11 : decode cX6_areLike 11 = .ok (.iaload, 1) := by decide +kernel
theorem dX6_areLike_12 : decode cX6_areLike 12 = .ok (.if_icmp .ne 7, 3) := by decide +kernel
theorem dX6_areLike_15 : decode cX6_areLike 15 = .ok (.iconst 1, 1) := by decide +kernel
theorem dX6_areLike_16 : decode cX6_areLike 16 = .ok (.goto 4, 3) := by decide +kernel
theorem dX6_areLike_19 : decode cX6_areLike 19 = .ok (.iconst 0, 1) := by decide +kernel
theorem dX6_areLike_20 : decode cX6_areLike 20 = .ok (.istore_n 3, 1) := by decide +kernel
theorem dX6_areLike_21 : decode cX6_areLike 21 = .ok (.iconst 0, 1) := by decide +kernel
theorem dX6_areLike_22 : decode cX6_areLike 22 = .ok (.istore 4, 2) := by decide +kernel
theorem dX6_areLike_24 : decode cX6_areLike 24 = .ok (.iload 4, 2) := by decide +kernel
theorem dX6_areLike_26 : decode cX6_areLike 26 = .ok (.aload_n 0, 1) := by decide +kernel
theorem dX6_areLike_27 : decode cX6_areLike 27 = .ok (.getfield 7, 3) := by decide +kernel
theorem dX6_areLike_30 : decode cX6_areLike 30 = .ok (.iload_n 1, 1) := by decide +kernel
theorem dX6_areLike_31 : decode cX6_areLike 31 = .ok (.iaload, 1) := by decide +kernel
theorem dX6_areLike_32 : decode cX6_areLike 32 = .ok (.if_icmp .ge 46, 3) := by decide +kernel
theorem dX6_areLike_35 : decode cX6_areLike 35 = .ok (.iload_n 3, 1) := by decide +kernel
theorem dX6_areLike_36 : decode cX6_areLike 36 = .ok (.ifCond .eq 42, 3) := by decide +kernel
theorem dX6_areLike_39 : decode cX6_areLike 39 = .ok (.aload_n 0, 1) := by decide +kernel
theorem dX6_areLike_40 : decode cX6_areLike 40 = .ok (.getfield 17, 3) := by decide +kernel
theorem dX6_areLike_43 : decode cX6_areLike 43 = .ok (.bipush 6, 2) := by decide +kernel
theorem dX6_areLike_45 : decode cX6_areLike 45 = .ok (.iload_n 1, 1) := by decide +kernel
theorem dX6_areLike_46 : decode cX6_areLike 46 = .ok (.imul, 1) := by decide +kernel
theorem dX6_areLike_47 : decode cX6_areLike 47 = .ok (.iload 4, 2) := by decide +kernel
theorem dX6_areLike_49 : decode cX6_areLike 49 = .ok (.iadd, 1) := by decide +kernel
theorem dX6_areLike_50 : decode cX6_areLike 50 = .ok (.iaload, 1) := by decide +kernel
theorem dX6_areLike_51 : decode cX6_areLike 51 = .ok (.aload_n 0, 1) := by decide +kernel
theorem dX6_areLike_52 : decode cX6_areLike 52 = .ok (.getfield 17, 3) := by decide +kernel
theorem dX6_areLike_55 : decode cX6_areLike 55 = .ok (.bipush 6, 2) := by decide +kernel
theorem dX6_areLike_57 : decode cX6_areLike 57 = .ok (.iload_n 2, 1) := by decide +kernel
theorem dX6_areLike_58 : decode cX6_areLike 58 = .ok (.imul, 1) := by decide +kernel
theorem dX6_areLike_59 : decode cX6_areLike 59 = .ok (.iload 4, 2) := by decide +kernel
theorem dX6_areLike_61 : decode cX6_areLike 61 = .ok (.iadd, 1) := by decide +kernel
theorem dX6_areLike_62 : decode cX6_areLike 62 = .ok (.iaload, 1) := by decide +kernel
theorem dX6_areLike_63 : decode cX6_areLike 63 = .ok (.if_icmp .ne 7, 3) := by decide +kernel
theorem dX6_areLike_66 : decode cX6_areLike 66 = .ok (.iconst 1, 1) := by decide +kernel
theorem dX6_areLike_67 : decode cX6_areLike 67 = .ok (.goto 4, 3) := by decide +kernel
theorem dX6_areLike_70 : decode cX6_areLike 70 = .ok (.iconst 0, 1) := by decide +kernel
theorem dX6_areLike_71 : decode cX6_areLike 71 = .ok (.istore_n 3, 1) := by decide +kernel
theorem dX6_areLike_72 : decode cX6_areLike 72 = .ok (.iinc 4 1, 3) := by decide +kernel
theorem dX6_areLike_75 : decode cX6_areLike 75 = .ok (.goto (-51), 3) := by decide +kernel
theorem dX6_areLike_78 : decode cX6_areLike 78 = .ok (.iload_n 3, 1) := by decide +kernel
theorem dX6_areLike_79 : decode cX6_areLike 79 = .ok (.ireturn, 1) := by decide +kernel
theorem dX6_count_0 : decode cX6_count 0 = .ok (.iconst 0, 1) := by decide +kernel
theorem dX6_count_1 : decode cX6_count 1 = .ok (.istore_n 2, 1) := by decide +kernel
theorem dX6_count_2 : decode cX6_count 2 = .ok (.iload_n 1, 1) := by decide +kernel
theorem dX6_count_3 : decode cX6_count 3 = .ok (.tableswitch 213 0 5 #[37, 42, 141, 175, 208, 42], 37) := by decide +kernel
theorem dX6_count_40 : decode cX6_count 40 = .ok (.aload_n 0, 1) := by decide +kernel
theorem dX6_count_41 : decode cX6_count 41 = .ok (.getfield 155, 3) := by decide +kernel
theorem dX6_count_44 : decode cX6_count 44 = .ok (.ireturn, 1) := by decide +kernel
theorem dX6_count_45 : decode cX6_count 45 = .ok (.iconst 0, 1) := by decide +kernel
theorem dX6_count_46 : decode cX6_count 46 = .ok (.istore_n 3, 1) := by decide +kernel
theorem dX6_count_47 : decode cX6_count 47 = .ok (.iload_n 3, 1) := by decide +kernel
theorem dX6_count_48 : decode cX6_count 48 = .ok (.aload_n 0, 1) := by decide +kernel
theorem dX6_count_49 : decode cX6_count 49 = .ok (.getfield 155, 3) := by decide +kernel
theorem dX6_count_52 : decode cX6_count 52 = .ok (.if_icmp .ge 90, 3) := by decide +kernel
theorem dX6_count_55 : decode cX6_count 55 = .ok (.aload_n 0, 1) := by decide +kernel
theorem dX6_count_56 : decode cX6_count 56 = .ok (.getfield 13, 3) := by decide +kernel
theorem dX6_count_59 : decode cX6_count 59 = .ok (.iload_n 3, 1) := by decide +kernel
theorem dX6_count_60 : decode cX6_count 60 = .ok (.baload, 1) := by decide +kernel
theorem dX6_count_61 : decode cX6_count 61 = .ok (.ifCond .ne 7, 3) := by decide +kernel
theorem dX6_count_64 : decode cX6_count 64 = .ok (.iconst 1, 1) := by decide +kernel
theorem dX6_count_65 : decode cX6_count 65 = .ok (.goto 4, 3) := by decide +kernel
theorem dX6_count_68 : decode cX6_count 68 = .ok (.iconst 0, 1) := by decide +kernel
theorem dX6_count_69 : decode cX6_count 69 = .ok (.istore 4, 2) := by decide +kernel
theorem dX6_count_71 : decode cX6_count 71 = .ok (.iconst 0, 1) := by decide +kernel
theorem dX6_count_72 : decode cX6_count 72 = .ok (.istore 5, 2) := by decide +kernel
theorem dX6_count_74 : decode cX6_count 74 = .ok (.iload 5, 2) := by decide +kernel
theorem dX6_count_76 : decode cX6_count 76 = .ok (.iload_n 3, 1) := by decide +kernel
theorem dX6_count_77 : decode cX6_count 77 = .ok (.if_icmp .ge 46, 3) := by decide +kernel
theorem dX6_count_80 : decode cX6_count 80 = .ok (.iload_n 1, 1) := by decide +kernel
theorem dX6_count_81 : decode cX6_count 81 = .ok (.iconst 5, 1) := by decide +kernel
theorem dX6_count_82 : decode cX6_count 82 = .ok (.if_icmp .ne 41, 3) := by decide +kernel
theorem dX6_count_85 : decode cX6_count 85 = .ok (.iload 4, 2) := by decide +kernel
theorem dX6_count_87 : decode cX6_count 87 = .ok (.ifCond .eq 27, 3) := by decide +kernel
theorem dX6_count_90 : decode cX6_count 90 = .ok (.aload_n 0, 1) := by decide +kernel
theorem dX6_count_91 : decode cX6_count 91 = .ok (.getfield 13, 3) := by decide +kernel
theorem dX6_count_94 : decode cX6_count 94 = .ok (.iload 5, 2) := by decide +kernel
theorem dX6_count_96 : decode cX6_count 96 = .ok (.baload, 1) := by decide +kernel
theorem dX6_count_97 : decode cX6_count 97 = .ok (.ifCond .ne 13, 3) := by decide +kernel
theorem dX6_count_100 : decode cX6_count 100 = .ok (.aload_n 0, 1) := by decide +kernel
theorem dX6_count_101 : decode cX6_count 101 = .ok (.iload_n 3, 1) := by decide +kernel
theorem dX6_count_102 : decode cX6_count 102 = .ok (.iload 5, 2) := by decide +kernel
theorem dX6_count_104 : decode cX6_count 104 = .ok (.invokevirtual 396, 3) := by decide +kernel
theorem dX6_count_107 : decode cX6_count 107 = .ok (.ifCond .ne 7, 3) := by decide +kernel
theorem dX6_count_110 : decode cX6_count 110 = .ok (.iconst 1, 1) := by decide +kernel
theorem dX6_count_111 : decode cX6_count 111 = .ok (.goto 4, 3) := by decide +kernel
theorem dX6_count_114 : decode cX6_count 114 = .ok (.iconst 0, 1) := by decide +kernel
theorem dX6_count_115 : decode cX6_count 115 = .ok (.istore 4, 2) := by decide +kernel
theorem dX6_count_117 : decode cX6_count 117 = .ok (.iinc 5 1, 3) := by decide +kernel
theorem dX6_count_120 : decode cX6_count 120 = .ok (.goto (-46), 3) := by decide +kernel
theorem dX6_count_123 : decode cX6_count 123 = .ok (.iload_n 2, 1) := by decide +kernel
theorem dX6_count_124 : decode cX6_count 124 = .ok (.iload 4, 2) := by decide +kernel
theorem dX6_count_126 : decode cX6_count 126 = .ok (.ifCond .eq 7, 3) := by decide +kernel
theorem dX6_count_129 : decode cX6_count 129 = .ok (.iconst 1, 1) := by decide +kernel
theorem dX6_count_130 : decode cX6_count 130 = .ok (.goto 4, 3) := by decide +kernel
theorem dX6_count_133 : decode cX6_count 133 = .ok (.iconst 0, 1) := by decide +kernel
theorem dX6_count_134 : decode cX6_count 134 = .ok (.iadd, 1) := by decide +kernel
theorem dX6_count_135 : decode cX6_count 135 = .ok (.istore_n 2, 1) := by decide +kernel
theorem dX6_count_136 : decode cX6_count 136 = .ok (.iinc 3 1, 3) := by decide +kernel
theorem dX6_count_139 : decode cX6_count 139 = .ok (.goto (-92), 3) := by decide +kernel
theorem dX6_count_142 : decode cX6_count 142 = .ok (.iload_n 2, 1) := by decide +kernel
theorem dX6_count_143 : decode cX6_count 143 = .ok (.ireturn, 1) := by decide +kernel
theorem dX6_count_144 : decode cX6_count 144 = .ok (.iconst 0, 1) := by decide +kernel
theorem dX6_count_145 : decode cX6_count 145 = .ok (.istore_n 3, 1) := by decide +kernel
theorem dX6_count_146 : decode cX6_count 146 = .ok (.iload_n 3, 1) := by decide +kernel
theorem dX6_count_147 : decode cX6_count 147 = .ok (.sipush 144, 3) := by decide +kernel
theorem dX6_count_150 : decode cX6_count 150 = .ok (.if_icmp .ge 26, 3) := by decide +kernel
theorem dX6_count_153 : decode cX6_count 153 = .ok (.iload_n 2, 1) := by decide +kernel
theorem dX6_count_154 : decode cX6_count 154 = .ok (.aload_n 0, 1) := by decide +kernel
theorem dX6_count_155 : decode cX6_count 155 = .ok (.iload_n 3, 1) := by decide +kernel
theorem dX6_count_156 : decode cX6_count 156 = .ok (.iconst 0, 1) := by decide +kernel
theorem dX6_count_157 : decode cX6_count 157 = .ok (.invokevirtual 183, 3) := by decide +kernel
theorem dX6_count_160 : decode cX6_count 160 = .ok (.ifCond .eq 7, 3) := by decide +kernel
theorem dX6_count_163 : decode cX6_count 163 = .ok (.iconst 1, 1) := by decide +kernel
theorem dX6_count_164 : decode cX6_count 164 = .ok (.goto 4, 3) := by decide +kernel
theorem dX6_count_167 : decode cX6_count 167 = .ok (.iconst 0, 1) := by decide +kernel
theorem dX6_count_168 : decode cX6_count 168 = .ok (.iadd, 1) := by decide +kernel
theorem dX6_count_169 : decode cX6_count 169 = .ok (.istore_n 2, 1) := by decide +kernel
theorem dX6_count_170 : decode cX6_count 170 = .ok (.iinc 3 1, 3) := by decide +kernel
theorem dX6_count_173 : decode cX6_count 173 = .ok (.goto (-27), 3) := by decide +kernel
theorem dX6_count_176 : decode cX6_count 176 = .ok (.iload_n 2, 1) := by decide +kernel
theorem dX6_count_177 : decode cX6_count 177 = .ok (.ireturn, 1) := by decide +kernel
theorem dX6_count_178 : decode cX6_count 178 = .ok (.iconst 0, 1) := by decide +kernel
theorem dX6_count_179 : decode cX6_count 179 = .ok (.istore_n 3, 1) := by decide +kernel
theorem dX6_count_180 : decode cX6_count 180 = .ok (.iload_n 3, 1) := by decide +kernel
theorem dX6_count_181 : decode cX6_count 181 = .ok (.bipush 12, 2) := by decide +kernel
theorem dX6_count_183 : decode cX6_count 183 = .ok (.if_icmp .ge 26, 3) := by decide +kernel
theorem dX6_count_186 : decode cX6_count 186 = .ok (.iload_n 2, 1) := by decide +kernel
theorem dX6_count_187 : decode cX6_count 187 = .ok (.aload_n 0, 1) := by decide +kernel
theorem dX6_count_188 : decode cX6_count 188 = .ok (.iload_n 3, 1) := by decide +kernel
theorem dX6_count_189 : decode cX6_count 189 = .ok (.iconst 2, 1) := by decide +kernel
theorem dX6_count_190 : decode cX6_count 190 = .ok (.invokevirtual 399, 3) := by decide +kernel
theorem dX6_count_193 : decode cX6_count 193 = .ok (.ifCond .le 7, 3) := by decide +kernel
theorem dX6_count_196 : decode cX6_count 196 = .ok (.iconst 1, 1) := by decide +kernel
theorem dX6_count_197 : decode cX6_count 197 = .ok (.goto 4, 3) := by decide +kernel
theorem dX6_count_200 : decode cX6_count 200 = .ok (.iconst 0, 1) := by decide +kernel
theorem dX6_count_201 : decode cX6_count 201 = .ok (.iadd, 1) := by decide +kernel
theorem dX6_count_202 : decode cX6_count 202 = .ok (.istore_n 2, 1) := by decide +kernel
theorem dX6_count_203 : decode cX6_count 203 = .ok (.iinc 3 1, 3) := by decide +kernel
theorem dX6_count_206 : decode cX6_count 206 = .ok (.goto (-26), 3) := by decide +kernel
theorem dX6_count_209 : decode cX6_count 209 = .ok (.iload_n 2, 1) := by decide +kernel
theorem dX6_count_210 : decode cX6_count 210 = .ok (.ireturn, 1) := by decide +kernel
theorem dX6_count_211 : decode cX6_count 211 = .ok (.aload_n 0, 1) := by decide +kernel
theorem dX6_count_212 : decode cX6_count 212 = .ok (.getfield 189, 3) := by decide +kernel
theorem dX6_count_215 : decode cX6_count 215 = .ok (.ireturn, 1) := by decide +kernel
theorem dX6_count_216 : decode cX6_count 216 = .ok (.iconst (-1), 1) := by decide +kernel
theorem dX6_count_217 : decode cX6_count 217 = .ok (.ireturn, 1) := by decide +kernel
theorem dJ6_compare_7cf53_0 : decode cJ6_compare_7cf53 0 = .ok (.iload_n 0, 1) := by decide +kernel
theorem dJ6_compare_7cf53_1 : decode cJ6_compare_7cf53 1 = .ok (.iload_n 1, 1) := by decide +kernel
theorem dJ6_compare_7cf53_2 : decode cJ6_compare_7cf53 2 = .ok (.if_icmp .ge 7, 3) := by decide +kernel
theorem dJ6_compare_7cf53_5 : decode cJ6_compare_7cf53 5 = .ok (.iconst (-1), 1) := by decide +kernel
theorem dJ6_compare_7cf53_6 : decode cJ6_compare_7cf53 6 = .ok (.goto 13, 3) := by decide +kernel
theorem dJ6_compare_7cf53_9 : decode cJ6_compare_7cf53 9 = .ok (.iload_n 0, 1) := by decide +kernel
theorem dJ6_compare_7cf53_10 : decode cJ6_compare_7cf53 10 = .ok (.iload_n 1, 1) := by decide +kernel
theorem dJ6_compare_7cf53_11 : decode cJ6_compare_7cf53 11 = .ok (.if_icmp .ne 7, 3) := by decide +kernel
theorem dJ6_compare_7cf53_14 : decode cJ6_compare_7cf53 14 = .ok (.iconst 0, 1) := by decide +kernel
theorem dJ6_compare_7cf53_15 : decode cJ6_compare_7cf53 15 = .ok (.goto 4, 3) := by decide +kernel
theorem dJ6_compare_7cf53_18 : decode cJ6_compare_7cf53 18 = .ok (.iconst 1, 1) := by decide +kernel
theorem dJ6_compare_7cf53_19 : decode cJ6_compare_7cf53 19 = .ok (.ireturn, 1) := by decide +kernel
theorem dJ6_bitCount_0f7a4_0 : decode cJ6_bitCount_0f7a4 0 = .ok (.iload_n 0, 1) := by decide +kernel
theorem dJ6_bitCount_0f7a4_1 : decode cJ6_bitCount_0f7a4 1 = .ok (.iload_n 0, 1) := by decide +kernel
theorem dJ6_bitCount_0f7a4_2 : decode cJ6_bitCount_0f7a4 2 = .ok (.iconst 1, 1) := by decide +kernel
theorem dJ6_bitCount_0f7a4_3 : decode cJ6_bitCount_0f7a4 3 = .ok (.iushr, 1) := by decide +kernel
theorem dJ6_bitCount_0f7a4_4 : decode cJ6_bitCount_0f7a4 4 = .ok (.ldc_w 265, 3) := by decide +kernel
theorem dJ6_bitCount_0f7a4_7 : decode cJ6_bitCount_0f7a4 7 = .ok (.iand, 1) := by decide +kernel
theorem dJ6_bitCount_0f7a4_8 : decode cJ6_bitCount_0f7a4 8 = .ok (.isub, 1) := by decide +kernel
theorem dJ6_bitCount_0f7a4_9 : decode cJ6_bitCount_0f7a4 9 = .ok (.istore_n 0, 1) := by decide +kernel
theorem dJ6_bitCount_0f7a4_10 : decode cJ6_bitCount_0f7a4 10 = .ok (.iload_n 0, 1) := by decide +kernel
theorem dJ6_bitCount_0f7a4_11 : decode cJ6_bitCount_0f7a4 11 = .ok (.ldc_w 266, 3) := by decide +kernel
theorem dJ6_bitCount_0f7a4_14 : decode cJ6_bitCount_0f7a4 14 = .ok (.iand, 1) := by decide +kernel
theorem dJ6_bitCount_0f7a4_15 : decode cJ6_bitCount_0f7a4 15 = .ok (.iload_n 0, 1) := by decide +kernel
theorem dJ6_bitCount_0f7a4_16 : decode cJ6_bitCount_0f7a4 16 = .ok (.iconst 2, 1) := by decide +kernel
theorem dJ6_bitCount_0f7a4_17 : decode cJ6_bitCount_0f7a4 17 = .ok (.iushr, 1) := by decide +kernel
theorem dJ6_bitCount_0f7a4_18 : decode cJ6_bitCount_0f7a4 18 = .ok (.ldc_w 266, 3) := by decide +kernel
theorem dJ6_bitCount_0f7a4_21 : decode cJ6_bitCount_0f7a4 21 = .ok (.iand, 1) := by decide +kernel
theorem dJ6_bitCount_0f7a4_22 : decode cJ6_bitCount_0f7a4 22 = .ok (.iadd, 1) := by decide +kernel
theorem dJ6_bitCount_0f7a4_23 : decode cJ6_bitCount_0f7a4 23 = .ok (.istore_n 0, 1) := by decide +kernel
theorem dJ6_bitCount_0f7a4_24 : decode cJ6_bitCount_0f7a4 24 = .ok (.iload_n 0, 1) := by decide +kernel
theorem dJ6_bitCount_0f7a4_25 : decode cJ6_bitCount_0f7a4 25 = .ok (.iload_n 0, 1) := by decide +kernel
theorem dJ6_bitCount_0f7a4_26 : decode cJ6_bitCount_0f7a4 26 = .ok (.iconst 4, 1) := by decide +kernel
theorem dJ6_bitCount_0f7a4_27 : decode cJ6_bitCount_0f7a4 27 = .ok (.iushr, 1) := by decide +kernel
theorem dJ6_bitCount_0f7a4_28 : decode cJ6_bitCount_0f7a4 28 = .ok (.iadd, 1) := by decide +kernel
theorem dJ6_bitCount_0f7a4_29 : decode cJ6_bitCount_0f7a4 29 = .ok (.ldc_w 267, 3) := by decide +kernel
theorem dJ6_bitCount_0f7a4_32 : decode cJ6_bitCount_0f7a4 32 = .ok (.iand, 1) := by decide +kernel
theorem dJ6_bitCount_0f7a4_33 : decode cJ6_bitCount_0f7a4 33 = .ok (.istore_n 0, 1) := by decide +kernel
theorem dJ6_bitCount_0f7a4_34 : decode cJ6_bitCount_0f7a4 34 = .ok (.iload_n 0, 1) := by decide +kernel
theorem dJ6_bitCount_0f7a4_35 : decode cJ6_bitCount_0f7a4 35 = .ok (.iload_n 0, 1) := by decide +kernel
theorem dJ6_bitCount_0f7a4_36 : decode cJ6_bitCount_0f7a4 36 = .ok (.bipush 8, 2) := by decide +kernel
theorem dJ6_bitCount_0f7a4_38 : decode cJ6_bitCount_0f7a4 38 = .ok (.iushr, 1) := by decide +kernel
theorem dJ6_bitCount_0f7a4_39 : decode cJ6_bitCount_0f7a4 39 = .ok (.iadd, 1) := by decide +kernel
theorem dJ6_bitCount_0f7a4_40 : decode cJ6_bitCount_0f7a4 40 = .ok (.istore_n 0, 1) := by decide +kernel
theorem dJ6_bitCount_0f7a4_41 : decode cJ6_bitCount_0f7a4 41 = .ok (.iload_n 0, 1) := by decide +kernel
theorem dJ6_bitCount_0f7a4_42 : decode cJ6_bitCount_0f7a4 42 = .ok (.iload_n 0, 1) := by decide +kernel
theorem dJ6_bitCount_0f7a4_43 : decode cJ6_bitCount_0f7a4 43 = .ok (.bipush 16, 2) := by decide +kernel
theorem dJ6_bitCount_0f7a4_45 : decode cJ6_bitCount_0f7a4 45 = .ok (.iushr, 1) := by decide +kernel
theorem dJ6_bitCount_0f7a4_46 : decode cJ6_bitCount_0f7a4 46 = .ok (.iadd, 1) := by decide +kernel
theorem dJ6_bitCount_0f7a4_47 : decode cJ6_bitCount_0f7a4 47 = .ok (.istore_n 0, 1) := by decide +kernel
theorem dJ6_bitCount_0f7a4_48 : decode cJ6_bitCount_0f7a4 48 = .ok (.iload_n 0, 1) := by decide +kernel
theorem dJ6_bitCount_0f7a4_49 : decode cJ6_bitCount_0f7a4 49 = .ok (.bipush 63, 2) := by decide +kernel
theorem dJ6_bitCount_0f7a4_51 : decode cJ6_bitCount_0f7a4 51 = .ok (.iand, 1) := by decide +kernel
theorem dJ6_bitCount_0f7a4_52 : decode cJ6_bitCount_0f7a4 52 = .ok (.ireturn, 1) := by decide +kernel
theorem dJ9_max_7cf53_0 : decode cJ9_max_7cf53 0 = .ok (.iload_n 0, 1) := by decide +kernel
theorem dJ9_max_7cf53_1 : decode cJ9_max_7cf53 1 = .ok (.iload_n 1, 1) := by decide +kernel
theorem dJ9_max_7cf53_2 : decode cJ9_max_7cf53 2 = .ok (.if_icmp .lt 7, 3) := by decide +kernel
theorem dJ9_max_7cf53_5 : decode cJ9_max_7cf53 5 = .ok (.iload_n 0, 1) := by decide +kernel
theorem dJ9_max_7cf53_6 : decode cJ9_max_7cf53 6 = .ok (.goto 4, 3) := by decide +kernel
theorem dJ9_max_7cf53_9 : decode cJ9_max_7cf53 9 = .ok (.iload_n 1, 1) := by decide +kernel
theorem dJ9_max_7cf53_10 : decode cJ9_max_7cf53 10 = .ok (.ireturn, 1) := by decide +kernel
theorem dJ9_min_7cf53_0 : decode cJ9_min_7cf53 0 = .ok (.iload_n 0, 1) := by decide +kernel
theorem dJ9_min_7cf53_1 : decode cJ9_min_7cf53 1 = .ok (.iload_n 1, 1) := by decide +kernel
theorem dJ9_min_7cf53_2 : decode cJ9_min_7cf53 2 = .ok (.if_icmp .gt 7, 3) := by decide +kernel
theorem dJ9_min_7cf53_5 : decode cJ9_min_7cf53 5 = .ok (.iload_n 0, 1) := by decide +kernel
theorem dJ9_min_7cf53_6 : decode cJ9_min_7cf53 6 = .ok (.goto 4, 3) := by decide +kernel
theorem dJ9_min_7cf53_9 : decode cJ9_min_7cf53 9 = .ok (.iload_n 1, 1) := by decide +kernel
theorem dJ9_min_7cf53_10 : decode cJ9_min_7cf53 10 = .ok (.ireturn, 1) := by decide +kernel
theorem dJxa1e45_init_da8c8_0 : decode cJxa1e45_init_da8c8 0 = .ok (.aload_n 0, 1) := by decide +kernel
theorem dJxa1e45_init_da8c8_1 : decode cJxa1e45_init_da8c8 1 = .ok (.invokespecial 1, 3) := by decide +kernel
theorem dJxa1e45_init_da8c8_4 : decode cJxa1e45_init_da8c8 4 = .ok (.return_, 1) := by decide +kernel
theorem dJxc12de_init_da8c8_0 : decode cJxc12de_init_da8c8 0 = .ok (.aload_n 0, 1) := by decide +kernel
theorem dJxc12de_init_da8c8_1 : decode cJxc12de_init_da8c8 1 = .ok (.invokespecial 1, 3) := by decide +kernel
theorem dJxc12de_init_da8c8_4 : decode cJxc12de_init_da8c8 4 = .ok (.aload_n 0, 1) := by decide +kernel
theorem dJxc12de_init_da8c8_5 : decode cJxc12de_init_da8c8 5 = .ok (.iconst 0, 1) := by decide +kernel
theorem dJxc12de_init_da8c8_6 : decode cJxc12de_init_da8c8 6 = .ok (.putfield 7, 3) := by decide +kernel
theorem dJxc12de_init_da8c8_9 : decode cJxc12de_init_da8c8 9 = .ok (.return_, 1) := by decide +kernel
theorem dJx4a65c_init_da8c8_0 : decode cJx4a65c_init_da8c8 0 = .ok (.aload_n 0, 1) := by decide +kernel
theorem dJx4a65c_init_da8c8_1 : decode cJx4a65c_init_da8c8 1 = .ok (.invokespecial 1, 3) := by decide +kernel
theorem dJx4a65c_init_da8c8_4 : decode cJx4a65c_init_da8c8 4 = .ok (.aload_n 0, 1) := by decide +kernel
theorem dJx4a65c_init_da8c8_5 : decode cJx4a65c_init_da8c8 5 = .ok (.getstatic 39, 3) := by decide +kernel
theorem dJx4a65c_init_da8c8_8 : decode cJx4a65c_init_da8c8 8 = .ok (.putfield 9, 3) := by decide +kernel
theorem dJx4a65c_init_da8c8_11 : decode cJx4a65c_init_da8c8 11 = .ok (.return_, 1) := by decide +kernel
theorem dJx4a65c_grow_92f84_0 : decode cJx4a65c_grow_92f84 0 = .ok (.aload_n 0, 1) := by decide +kernel
theorem dJx4a65c_grow_92f84_1 : decode cJx4a65c_grow_92f84 1 = .ok (.getfield 9, 3) := by decide +kernel
theorem dJx4a65c_grow_92f84_4 : decode cJx4a65c_grow_92f84 4 = .ok (.arraylength, 1) := by decide +kernel
theorem dJx4a65c_grow_92f84_5 : decode cJx4a65c_grow_92f84 5 = .ok (.istore_n 2, 1) := by decide +kernel
theorem dJx4a65c_grow_92f84_6 : decode cJx4a65c_grow_92f84 6 = .ok (.iload_n 2, 1) := by decide +kernel
theorem dJx4a65c_grow_92f84_7 : decode cJx4a65c_grow_92f84 7 = .ok (.ifCond .gt 13, 3) := by decide +kernel
theorem dJx4a65c_grow_92f84_10 : decode cJx4a65c_grow_92f84 10 = .ok (.aload_n 0, 1) := by decide +kernel
theorem dJx4a65c_grow_92f84_11 : decode cJx4a65c_grow_92f84 11 = .ok (.getfield 9, 3) := by decide +kernel
theorem dJx4a65c_grow_92f84_14 : decode cJx4a65c_grow_92f84 14 = .ok (.getstatic 39, 3) := by decide +kernel
theorem dJx4a65c_grow_92f84_17 : decode cJx4a65c_grow_92f84 17 = .ok (.if_acmp .eq 28, 3) := by decide +kernel
theorem dJx4a65c_grow_92f84_20 : decode cJx4a65c_grow_92f84 20 = .ok (.iload_n 2, 1) := by decide +kernel
theorem dJx4a65c_grow_92f84_21 : decode cJx4a65c_grow_92f84 21 = .ok (.iload_n 1, 1) := by decide +kernel
theorem dJx4a65c_grow_92f84_22 : decode cJx4a65c_grow_92f84 22 = .ok (.iload_n 2, 1) := by decide +kernel
theorem dJx4a65c_grow_92f84_23 : decode cJx4a65c_grow_92f84 23 = .ok (.isub, 1) := by decide +kernel
theorem dJx4a65c_grow_92f84_24 : decode cJx4a65c_grow_92f84 24 = .ok (.iload_n 2, 1) := by decide +kernel
theorem dJx4a65c_grow_92f84_25 : decode cJx4a65c_grow_92f84 25 = .ok (.iconst 1, 1) := by decide +kernel
theorem dJx4a65c_grow_92f84_26 : decode cJx4a65c_grow_92f84 26 = .ok (.ishr, 1) := by decide +kernel
theorem dJx4a65c_grow_92f84_27 : decode cJx4a65c_grow_92f84 27 = .ok (.invokestatic 73, 3) := by decide +kernel
theorem dJx4a65c_grow_92f84_30 : decode cJx4a65c_grow_92f84 30 = .ok (.istore_n 3, 1) := by decide +kernel
theorem dJx4a65c_grow_92f84_31 : decode cJx4a65c_grow_92f84 31 = .ok (.aload_n 0, 1) := by decide +kernel
theorem dJx4a65c_grow_92f84_32 : decode cJx4a65c_grow_92f84 32 = .ok (.aload_n 0, 1) := by decide +kernel
theorem dJx4a65c_grow_92f84_33 : decode cJx4a65c_grow_92f84 33 = .ok (.getfield 9, 3) := by decide +kernel
theorem dJx4a65c_grow_92f84_36 : decode cJx4a65c_grow_92f84 36 = .ok (.iload_n 3, 1) := by decide +kernel
theorem dJx4a65c_grow_92f84_37 : decode cJx4a65c_grow_92f84 37 = .ok (.invokestatic 66, 3) := by decide +kernel
theorem dJx4a65c_grow_92f84_40 : decode cJx4a65c_grow_92f84 40 = .ok (.dup_x1, 1) := by decide +kernel
theorem dJx4a65c_grow_92f84_41 : decode cJx4a65c_grow_92f84 41 = .ok (.putfield 9, 3) := by decide +kernel
theorem dJx4a65c_grow_92f84_44 : decode cJx4a65c_grow_92f84 44 = .ok (.areturn, 1) := by decide +kernel
theorem dJx4a65c_grow_92f84_45 : decode cJx4a65c_grow_92f84 45 = .ok (.aload_n 0, 1) := by decide +kernel
theorem dJx4a65c_grow_92f84_46 : decode cJx4a65c_grow_92f84 46 = .ok (.bipush 10, 2) := by decide +kernel
theorem dJx4a65c_grow_92f84_48 : decode cJx4a65c_grow_92f84 48 = .ok (.iload_n 1, 1) := by decide +kernel
theorem dJx4a65c_grow_92f84_49 : decode cJx4a65c_grow_92f84 49 = .ok (.invokestatic 79, 3) := by decide +kernel
theorem dJx4a65c_grow_92f84_52 : decode cJx4a65c_grow_92f84 52 = .ok (.anewarray 7, 3) := by decide +kernel
theorem dJx4a65c_grow_92f84_55 : decode cJx4a65c_grow_92f84 55 = .ok (.dup_x1, 1) := by decide +kernel
theorem dJx4a65c_grow_92f84_56 : decode cJx4a65c_grow_92f84 56 = .ok (.putfield 9, 3) := by decide +kernel
theorem dJx4a65c_grow_92f84_59 : decode cJx4a65c_grow_92f84 59 = .ok (.areturn, 1) := by decide +kernel
theorem dJx4a65c_grow_d5877_0 : decode cJx4a65c_grow_d5877 0 = .ok (.aload_n 0, 1) := by decide +kernel
theorem dJx4a65c_grow_d5877_1 : decode cJx4a65c_grow_d5877 1 = .ok (.aload_n 0, 1) := by decide +kernel
theorem dJx4a65c_grow_d5877_2 : decode cJx4a65c_grow_d5877 2 = .ok (.getfield 48, 3) := by decide +kernel
theorem dJx4a65c_grow_d5877_5 : decode cJx4a65c_grow_d5877 5 = .ok (.iconst 1, 1) := by decide +kernel
theorem dJx4a65c_grow_d5877_6 : decode cJx4a65c_grow_d5877 6 = .ok (.iadd, 1) := by decide +kernel
theorem dJx4a65c_grow_d5877_7 : decode cJx4a65c_grow_d5877 7 = .ok (.invokevirtual 69, 3) := by decide +kernel
theorem dJx4a65c_grow_d5877_10 : decode cJx4a65c_grow_d5877 10 = .ok (.areturn, 1) := by decide +kernel
theorem dJx4a65c_size_8abf5_0 : decode cJx4a65c_size_8abf5 0 = .ok (.aload_n 0, 1) := by decide +kernel
theorem dJx4a65c_size_8abf5_1 : decode cJx4a65c_size_8abf5 1 = .ok (.getfield 48, 3) := by decide +kernel
theorem dJx4a65c_size_8abf5_4 : decode cJx4a65c_size_8abf5 4 = .ok (.ireturn, 1) := by decide +kernel
theorem dJx4a65c_elementData_915e3_0 : decode cJx4a65c_elementData_915e3 0 = .ok (.aload_n 0, 1) := by decide +kernel
theorem dJx4a65c_elementData_915e3_1 : decode cJx4a65c_elementData_915e3 1 = .ok (.getfield 9, 3) := by decide +kernel
theorem dJx4a65c_elementData_915e3_4 : decode cJx4a65c_elementData_915e3 4 = .ok (.iload_n 1, 1) := by decide +kernel
theorem dJx4a65c_elementData_915e3_5 : decode cJx4a65c_elementData_915e3 5 = .ok (.aaload, 1) := by decide +kernel
theorem dJx4a65c_elementData_915e3_6 : decode cJx4a65c_elementData_915e3 6 = .ok (.areturn, 1) := by decide +kernel
theorem dJx4a65c_get_915e3_0 : decode cJx4a65c_get_915e3 0 = .ok (.iload_n 1, 1) := by decide +kernel
theorem dJx4a65c_get_915e3_1 : decode cJx4a65c_get_915e3 1 = .ok (.aload_n 0, 1) := by decide +kernel
theorem dJx4a65c_get_915e3_2 : decode cJx4a65c_get_915e3 2 = .ok (.getfield 48, 3) := by decide +kernel
theorem dJx4a65c_get_915e3_5 : decode cJx4a65c_get_915e3 5 = .ok (.invokestatic 118, 3) := by decide +kernel
theorem dJx4a65c_get_915e3_8 : decode cJx4a65c_get_915e3 8 = .ok (.pop, 1) := by decide +kernel
theorem dJx4a65c_get_915e3_9 : decode cJx4a65c_get_915e3 9 = .ok (.aload_n 0, 1) := by decide +kernel
theorem dJx4a65c_get_915e3_10 : decode cJx4a65c_get_915e3 10 = .ok (.iload_n 1, 1) := by decide +kernel
theorem dJx4a65c_get_915e3_11 : decode cJx4a65c_get_915e3 11 = .ok (.invokevirtual 123, 3) := by decide +kernel
theorem dJx4a65c_get_915e3_14 : decode cJx4a65c_get_915e3 14 = .ok (.areturn, 1) := by decide +kernel
theorem dJx4a65c_add_7a177_0 : decode cJx4a65c_add_7a177 0 = .ok (.aload_n 0, 1) := by decide +kernel
theorem dJx4a65c_add_7a177_1 : decode cJx4a65c_add_7a177 1 = .ok (.iload_n 1, 1) := by decide +kernel
theorem dJx4a65c_add_7a177_2 : decode cJx4a65c_add_7a177 2 = .ok (.invokevirtual 135, 3) := by decide +kernel
theorem dJx4a65c_add_7a177_5 : decode cJx4a65c_add_7a177 5 = .ok (.aload_n 0, 1) := by decide +kernel
theorem dJx4a65c_add_7a177_6 : decode cJx4a65c_add_7a177 6 = .ok (.dup, 1) := by decide +kernel
theorem dJx4a65c_add_7a177_7 : decode cJx4a65c_add_7a177 7 = .ok (.getfield 63, 3) := by decide +kernel
theorem dJx4a65c_add_7a177_10 : decode cJx4a65c_add_7a177 10 = .ok (.iconst 1, 1) := by decide +kernel
theorem dJx4a65c_add_7a177_11 : decode cJx4a65c_add_7a177 11 = .ok (.iadd, 1) := by decide +kernel
theorem dJx4a65c_add_7a177_12 : decode cJx4a65c_add_7a177 12 = .ok (.putfield 63, 3) := by decide +kernel
theorem dJx4a65c_add_7a177_15 : decode cJx4a65c_add_7a177 15 = .ok (.aload_n 0, 1) := by decide +kernel
theorem dJx4a65c_add_7a177_16 : decode cJx4a65c_add_7a177 16 = .ok (.getfield 48, 3) := by decide +kernel
theorem dJx4a65c_add_7a177_19 : decode cJx4a65c_add_7a177 19 = .ok (.dup, 1) := by decide +kernel
theorem dJx4a65c_add_7a177_20 : decode cJx4a65c_add_7a177 20 = .ok (.istore_n 3, 1) := by decide +kernel
theorem dJx4a65c_add_7a177_21 : decode cJx4a65c_add_7a177 21 = .ok (.aload_n 0, 1) := by decide +kernel
theorem dJx4a65c_add_7a177_22 : decode cJx4a65c_add_7a177 22 = .ok (.getfield 9, 3) := by decide +kernel
theorem dJx4a65c_add_7a177_25 : decode cJx4a65c_add_7a177 25 = .ok (.dup, 1) := by decide +kernel
theorem dJx4a65c_add_7a177_26 : decode cJx4a65c_add_7a177 26 = .ok (.astore 4, 2) := by decide +kernel
theorem dJx4a65c_add_7a177_28 : decode cJx4a65c_add_7a177 28 = .ok (.arraylength, 1) := by decide +kernel
theorem dJx4a65c_add_7a177_29 : decode cJx4a65c_add_7a177 29 = .ok (.if_icmp .ne 9, 3) := by decide +kernel
theorem dJx4a65c_add_7a177_32 : decode cJx4a65c_add_7a177 32 = .ok (.aload_n 0, 1) := by decide +kernel
theorem dJx4a65c_add_7a177_33 : decode cJx4a65c_add_7a177 33 = .ok (.invokevirtual 129, 3) := by decide +kernel
theorem dJx4a65c_add_7a177_36 : decode cJx4a65c_add_7a177 36 = .ok (.astore 4, 2) := by decide +kernel
theorem dJx4a65c_add_7a177_38 : decode cJx4a65c_add_7a177 38 = .ok (.aload 4, 2) := by decide +kernel
theorem dJx4a65c_add_7a177_40 : decode cJx4a65c_add_7a177 40 = .ok (.iload_n 1, 1) := by decide +kernel
theorem dJx4a65c_add_7a177_41 : decode cJx4a65c_add_7a177 41 = .ok (.aload 4, 2) := by decide +kernel
theorem dJx4a65c_add_7a177_43 : decode cJx4a65c_add_7a177 43 = .ok (.iload_n 1, 1) := by decide +kernel
theorem dJx4a65c_add_7a177_44 : decode cJx4a65c_add_7a177 44 = .ok (.iconst 1, 1) := by decide +kernel
theorem dJx4a65c_add_7a177_45 : decode cJx4a65c_add_7a177 45 = .ok (.iadd, 1) := by decide +kernel
theorem dJx4a65c_add_7a177_46 : decode cJx4a65c_add_7a177 46 = .ok (.iload_n 3, 1) := by decide +kernel
theorem dJx4a65c_add_7a177_47 : decode cJx4a65c_add_7a177 47 = .ok (.iload_n 1, 1) := by decide +kernel
theorem dJx4a65c_add_7a177_48 : decode cJx4a65c_add_7a177 48 = .ok (.isub, 1) := by decide +kernel
theorem dJx4a65c_add_7a177_49 : decode cJx4a65c_add_7a177 49 = .ok (.invokestatic 112, 3) := by decide +kernel
theorem dJx4a65c_add_7a177_52 : decode cJx4a65c_add_7a177 52 = .ok (.aload 4, 2) := by decide +kernel
theorem dJx4a65c_add_7a177_54 : decode cJx4a65c_add_7a177 54 = .ok (.iload_n 1, 1) := by decide +kernel
theorem dJx4a65c_add_7a177_55 : decode cJx4a65c_add_7a177 55 = .ok (.aload_n 2, 1) := by decide +kernel
theorem dJx4a65c_add_7a177_56 : decode cJx4a65c_add_7a177 56 = .ok (.aastore, 1) := by decide +kernel
theorem dJx4a65c_add_7a177_57 : decode cJx4a65c_add_7a177 57 = .ok (.aload_n 0, 1) := by decide +kernel
theorem dJx4a65c_add_7a177_58 : decode cJx4a65c_add_7a177 58 = .ok (.iload_n 3, 1) := by decide +kernel
theorem dJx4a65c_add_7a177_59 : decode cJx4a65c_add_7a177 59 = .ok (.iconst 1, 1) := by decide +kernel
theorem dJx4a65c_add_7a177_60 : decode cJx4a65c_add_7a177 60 = .ok (.iadd, 1) := by decide +kernel
theorem dJx4a65c_add_7a177_61 : decode cJx4a65c_add_7a177 61 = .ok (.putfield 48, 3) := by decide +kernel
theorem dJx4a65c_add_7a177_64 : decode cJx4a65c_add_7a177 64 = .ok (.return_, 1) := by decide +kernel
theorem dJx4a65c_rangeCheckForAdd_d00df_0 : decode cJx4a65c_rangeCheckForAdd_d00df 0 = .ok (.iload_n 1, 1) := by decide +kernel
theorem dJx4a65c_rangeCheckForAdd_d00df_1 : decode cJx4a65c_rangeCheckForAdd_d00df 1 = .ok (.aload_n 0, 1) := by decide +kernel
theorem dJx4a65c_rangeCheckForAdd_d00df_2 : decode cJx4a65c_rangeCheckForAdd_d00df 2 = .ok (.getfield 48, 3) := by decide +kernel
theorem dJx4a65c_rangeCheckForAdd_d00df_5 : decode cJx4a65c_rangeCheckForAdd_d00df 5 = .ok (.if_icmp .gt 7, 3) := by decide +kernel
theorem dJx4a65c_rangeCheckForAdd_d00df_8 : decode cJx4a65c_rangeCheckForAdd_d00df 8 = .ok (.iload_n 1, 1) := by decide +kernel
theorem dJx4a65c_rangeCheckForAdd_d00df_9 : decode cJx4a65c_rangeCheckForAdd_d00df 9 = .ok (.ifCond .ge 16, 3) := by decide +kernel
theorem dJx4a65c_rangeCheckForAdd_d00df_12 : decode cJx4a65c_rangeCheckForAdd_d00df 12 = .ok (.new 187, 3) := by decide +kernel
theorem dJx4a65c_rangeCheckForAdd_d00df_15 : decode cJx4a65c_rangeCheckForAdd_d00df 15 = .ok (.dup, 1) := by decide +kernel
theorem dJx4a65c_rangeCheckForAdd_d00df_16 : decode cJx4a65c_rangeCheckForAdd_d00df 16 = .ok (.aload_n 0, 1) := by decide +kernel
theorem dJx4a65c_rangeCheckForAdd_d00df_17 : decode cJx4a65c_rangeCheckForAdd_d00df 17 = .ok (.iload_n 1, 1) := by decide +kernel
theorem dJx4a65c_rangeCheckForAdd_d00df_18 : decode cJx4a65c_rangeCheckForAdd_d00df 18 = .ok (.invokevirtual 198, 3) := by decide +kernel
theorem dJx4a65c_rangeCheckForAdd_d00df_21 : decode cJx4a65c_rangeCheckForAdd_d00df 21 = .ok (.invokespecial 193, 3) := by decide +kernel
theorem dJx4a65c_rangeCheckForAdd_d00df_24 : decode cJx4a65c_rangeCheckForAdd_d00df 24 = .ok (.athrow, 1) := by decide +kernel
theorem dJx4a65c_rangeCheckForAdd_d00df_25 : decode cJx4a65c_rangeCheckForAdd_d00df 25 = .ok (.return_, 1) := by decide +kernel
theorem dJ7_fill_53178_0 : decode cJ7_fill_53178 0 = .ok (.iconst 0, 1) := by decide +kernel
theorem dJ7_fill_53178_1 : decode cJ7_fill_53178 1 = .ok (.istore_n 2, 1) := by decide +kernel
theorem dJ7_fill_53178_2 : decode cJ7_fill_53178 2 = .ok (.aload_n 0, 1) := by decide +kernel
theorem dJ7_fill_53178_3 : decode cJ7_fill_53178 3 = .ok (.arraylength, 1) := by decide +kernel
theorem dJ7_fill_53178_4 : decode cJ7_fill_53178 4 = .ok (.istore_n 3, 1) := by decide +kernel
theorem dJ7_fill_53178_5 : decode cJ7_fill_53178 5 = .ok (.iload_n 2, 1) := by decide +kernel
theorem dJ7_fill_53178_6 : decode cJ7_fill_53178 6 = .ok (.iload_n 3, 1) := by decide +kernel
theorem dJ7_fill_53178_7 : decode cJ7_fill_53178 7 = .ok (.if_icmp .ge 13, 3) := by decide +kernel
theorem dJ7_fill_53178_10 : decode cJ7_fill_53178 10 = .ok (.aload_n 0, 1) := by decide +kernel
theorem dJ7_fill_53178_11 : decode cJ7_fill_53178 11 = .ok (.iload_n 2, 1) := by decide +kernel
theorem dJ7_fill_53178_12 : decode cJ7_fill_53178 12 = .ok (.iload_n 1, 1) := by decide +kernel
theorem dJ7_fill_53178_13 : decode cJ7_fill_53178 13 = .ok (.iastore, 1) := by decide +kernel
theorem dJ7_fill_53178_14 : decode cJ7_fill_53178 14 = .ok (.iinc 2 1, 3) := by decide +kernel
theorem dJ7_fill_53178_17 : decode cJ7_fill_53178 17 = .ok (.goto (-12), 3) := by decide +kernel
theorem dJ7_fill_53178_20 : decode cJ7_fill_53178 20 = .ok (.return_, 1) := by decide +kernel
theorem dJ7_copyOf_1904c_0 : decode cJ7_copyOf_1904c 0 = .ok (.aload_n 0, 1) := by decide +kernel
theorem dJ7_copyOf_1904c_1 : decode cJ7_copyOf_1904c 1 = .ok (.iload_n 1, 1) := by decide +kernel
theorem dJ7_copyOf_1904c_2 : decode cJ7_copyOf_1904c 2 = .ok (.aload_n 0, 1) := by decide +kernel
theorem dJ7_copyOf_1904c_3 : decode cJ7_copyOf_1904c 3 = .ok (.invokevirtual 86, 3) := by decide +kernel
theorem dJ7_copyOf_1904c_6 : decode cJ7_copyOf_1904c 6 = .ok (.invokestatic 300, 3) := by decide +kernel
theorem dJ7_copyOf_1904c_9 : decode cJ7_copyOf_1904c 9 = .ok (.areturn, 1) := by decide +kernel
theorem dJ7_copyOf_6403c_0 : decode cJ7_copyOf_6403c 0 = .ok (.aload_n 2, 1) := by decide +kernel
theorem dJ7_copyOf_6403c_1 : decode cJ7_copyOf_6403c 1 = .ok (.ldc 110, 2) := by decide +kernel
theorem dJ7_copyOf_6403c_3 : decode cJ7_copyOf_6403c 3 = .ok (.if_acmp .ne 10, 3) := by decide +kernel
theorem dJ7_copyOf_6403c_6 : decode cJ7_copyOf_6403c 6 = .ok (.iload_n 1, 1) := by decide +kernel
theorem dJ7_copyOf_6403c_7 : decode cJ7_copyOf_6403c 7 = .ok (.anewarray 2, 3) := by decide +kernel
theorem dJ7_copyOf_6403c_10 : decode cJ7_copyOf_6403c 10 = .ok (.goto 14, 3) := by decide +kernel
theorem dJ7_copyOf_6403c_13 : decode cJ7_copyOf_6403c 13 = .ok (.aload_n 2, 1) := by decide +kernel
theorem dJ7_copyOf_6403c_14 : decode cJ7_copyOf_6403c 14 = .ok (.invokevirtual 90, 3) := by decide +kernel
theorem dJ7_copyOf_6403c_17 : decode cJ7_copyOf_6403c 17 = .ok (.iload_n 1, 1) := by decide +kernel
theorem dJ7_copyOf_6403c_18 : decode cJ7_copyOf_6403c 18 = .ok (.invokestatic 95, 3) := by decide +kernel
theorem dJ7_copyOf_6403c_21 : decode cJ7_copyOf_6403c 21 = .ok (.checkcast 110, 3) := by decide +kernel
theorem dJ7_copyOf_6403c_24 : decode cJ7_copyOf_6403c 24 = .ok (.astore_n 3, 1) := by decide +kernel
theorem dJ7_copyOf_6403c_25 : decode cJ7_copyOf_6403c 25 = .ok (.aload_n 0, 1) := by decide +kernel
theorem dJ7_copyOf_6403c_26 : decode cJ7_copyOf_6403c 26 = .ok (.iconst 0, 1) := by decide +kernel
theorem dJ7_copyOf_6403c_27 : decode cJ7_copyOf_6403c 27 = .ok (.aload_n 3, 1) := by decide +kernel
theorem dJ7_copyOf_6403c_28 : decode cJ7_copyOf_6403c 28 = .ok (.iconst 0, 1) := by decide +kernel
theorem dJ7_copyOf_6403c_29 : decode cJ7_copyOf_6403c 29 = .ok (.aload_n 0, 1) := by decide +kernel
theorem dJ7_copyOf_6403c_30 : decode cJ7_copyOf_6403c 30 = .ok (.arraylength, 1) := by decide +kernel
theorem dJ7_copyOf_6403c_31 : decode cJ7_copyOf_6403c 31 = .ok (.iload_n 1, 1) := by decide +kernel
theorem dJ7_copyOf_6403c_32 : decode cJ7_copyOf_6403c 32 = .ok (.invokestatic 304, 3) := by decide +kernel
theorem dJ7_copyOf_6403c_35 : decode cJ7_copyOf_6403c 35 = .ok (.invokestatic 150, 3) := by decide +kernel
theorem dJ7_copyOf_6403c_38 : decode cJ7_copyOf_6403c 38 = .ok (.aload_n 3, 1) := by decide +kernel
theorem dJ7_copyOf_6403c_39 : decode cJ7_copyOf_6403c 39 = .ok (.areturn, 1) := by decide +kernel
theorem dJ15_checkIndex_7cf53_0 : decode cJ15_checkIndex_7cf53 0 = .ok (.iload_n 0, 1) := by decide +kernel
theorem dJ15_checkIndex_7cf53_1 : decode cJ15_checkIndex_7cf53 1 = .ok (.iload_n 1, 1) := by decide +kernel
theorem dJ15_checkIndex_7cf53_2 : decode cJ15_checkIndex_7cf53 2 = .ok (.aconst_null, 1) := by decide +kernel
theorem dJ15_checkIndex_7cf53_3 : decode cJ15_checkIndex_7cf53 3 = .ok (.invokestatic 105, 3) := by decide +kernel
theorem dJ15_checkIndex_7cf53_6 : decode cJ15_checkIndex_7cf53 6 = .ok (.ireturn, 1) := by decide +kernel
theorem dJ8_newLength_cabcc_0 : decode cJ8_newLength_cabcc 0 = .ok (.iload_n 0, 1) := by decide +kernel
theorem dJ8_newLength_cabcc_1 : decode cJ8_newLength_cabcc 1 = .ok (.iload_n 1, 1) := by decide +kernel
theorem dJ8_newLength_cabcc_2 : decode cJ8_newLength_cabcc 2 = .ok (.iload_n 2, 1) := by decide +kernel
theorem dJ8_newLength_cabcc_3 : decode cJ8_newLength_cabcc 3 = .ok (.invokestatic 194, 3) := by decide +kernel
theorem dJ8_newLength_cabcc_6 : decode cJ8_newLength_cabcc 6 = .ok (.iadd, 1) := by decide +kernel
theorem dJ8_newLength_cabcc_7 : decode cJ8_newLength_cabcc 7 = .ok (.istore_n 3, 1) := by decide +kernel
theorem dJ8_newLength_cabcc_8 : decode cJ8_newLength_cabcc 8 = .ok (.iconst 0, 1) := by decide +kernel
theorem dJ8_newLength_cabcc_9 : decode cJ8_newLength_cabcc 9 = .ok (.iload_n 3, 1) := by decide +kernel
theorem dJ8_newLength_cabcc_10 : decode cJ8_newLength_cabcc 10 = .ok (.if_icmp .ge 11, 3) := by decide +kernel
theorem dJ8_newLength_cabcc_13 : decode cJ8_newLength_cabcc 13 = .ok (.iload_n 3, 1) := by decide +kernel
theorem dJ8_newLength_cabcc_14 : decode cJ8_newLength_cabcc 14 = .ok (.ldc 200, 2) := by decide +kernel
theorem dJ8_newLength_cabcc_16 : decode cJ8_newLength_cabcc 16 = .ok (.if_icmp .gt 5, 3) := by decide +kernel
theorem dJ8_newLength_cabcc_19 : decode cJ8_newLength_cabcc 19 = .ok (.iload_n 3, 1) := by decide +kernel
theorem dJ8_newLength_cabcc_20 : decode cJ8_newLength_cabcc 20 = .ok (.ireturn, 1) := by decide +kernel
theorem dJ8_newLength_cabcc_21 : decode cJ8_newLength_cabcc 21 = .ok (.iload_n 0, 1) := by decide +kernel
theorem dJ8_newLength_cabcc_22 : decode cJ8_newLength_cabcc 22 = .ok (.iload_n 1, 1) := by decide +kernel
theorem dJ8_newLength_cabcc_23 : decode cJ8_newLength_cabcc 23 = .ok (.invokestatic 201, 3) := by decide +kernel
theorem dJ8_newLength_cabcc_26 : decode cJ8_newLength_cabcc 26 = .ok (.ireturn, 1) := by decide +kernel
theorem dJ8_hugeLength_7cf53_0 : decode cJ8_hugeLength_7cf53 0 = .ok (.iload_n 0, 1) := by decide +kernel
theorem dJ8_hugeLength_7cf53_1 : decode cJ8_hugeLength_7cf53 1 = .ok (.iload_n 1, 1) := by decide +kernel
theorem dJ8_hugeLength_7cf53_2 : decode cJ8_hugeLength_7cf53 2 = .ok (.iadd, 1) := by decide +kernel
theorem dJ8_hugeLength_7cf53_3 : decode cJ8_hugeLength_7cf53 3 = .ok (.istore_n 2, 1) := by decide +kernel
theorem dJ8_hugeLength_7cf53_4 : decode cJ8_hugeLength_7cf53 4 = .ok (.iload_n 2, 1) := by decide +kernel
theorem dJ8_hugeLength_7cf53_5 : decode cJ8_hugeLength_7cf53 5 = .ok (.ifCond .ge 44, 3) := by decide +kernel
theorem dJ8_hugeLength_7cf53_8 : decode cJ8_hugeLength_7cf53 8 = .ok (.new 204, 3) := by decide +kernel
theorem dJ8_hugeLength_7cf53_11 : decode cJ8_hugeLength_7cf53 11 = .ok (.dup, 1) := by decide +kernel
theorem dJ8_hugeLength_7cf53_12 : decode cJ8_hugeLength_7cf53 12 = .ok (.new 89, 3) := by decide +kernel
theorem dJ8_hugeLength_7cf53_15 : decode cJ8_hugeLength_7cf53 15 = .ok (.dup, 1) := by decide +kernel
theorem dJ8_hugeLength_7cf53_16 : decode cJ8_hugeLength_7cf53 16 = .ok (.invokespecial 91, 3) := by decide +kernel
theorem dJ8_hugeLength_7cf53_19 : decode cJ8_hugeLength_7cf53 19 = .ok (.ldc 206, 2) := by decide +kernel
theorem dJ8_hugeLength_7cf53_21 : decode cJ8_hugeLength_7cf53 21 = .ok (.invokevirtual 94, 3) := by decide +kernel
theorem dJ8_hugeLength_7cf53_24 : decode cJ8_hugeLength_7cf53 24 = .ok (.iload_n 0, 1) := by decide +kernel
theorem dJ8_hugeLength_7cf53_25 : decode cJ8_hugeLength_7cf53 25 = .ok (.invokevirtual 98, 3) := by decide +kernel
theorem dJ8_hugeLength_7cf53_28 : decode cJ8_hugeLength_7cf53 28 = .ok (.ldc 208, 2) := by decide +kernel
theorem dJ8_hugeLength_7cf53_30 : decode cJ8_hugeLength_7cf53 30 = .ok (.invokevirtual 94, 3) := by decide +kernel
theorem dJ8_hugeLength_7cf53_33 : decode cJ8_hugeLength_7cf53 33 = .ok (.iload_n 1, 1) := by decide +kernel
theorem dJ8_hugeLength_7cf53_34 : decode cJ8_hugeLength_7cf53 34 = .ok (.invokevirtual 98, 3) := by decide +kernel
theorem dJ8_hugeLength_7cf53_37 : decode cJ8_hugeLength_7cf53 37 = .ok (.ldc 210, 2) := by decide +kernel
theorem dJ8_hugeLength_7cf53_39 : decode cJ8_hugeLength_7cf53 39 = .ok (.invokevirtual 94, 3) := by decide +kernel
theorem dJ8_hugeLength_7cf53_42 : decode cJ8_hugeLength_7cf53 42 = .ok (.invokevirtual 101, 3) := by decide +kernel
theorem dJ8_hugeLength_7cf53_45 : decode cJ8_hugeLength_7cf53 45 = .ok (.invokespecial 212, 3) := by decide +kernel
theorem dJ8_hugeLength_7cf53_48 : decode cJ8_hugeLength_7cf53 48 = .ok (.athrow, 1) := by decide +kernel
theorem dJ8_hugeLength_7cf53_49 : decode cJ8_hugeLength_7cf53 49 = .ok (.iload_n 2, 1) := by decide +kernel
theorem dJ8_hugeLength_7cf53_50 : decode cJ8_hugeLength_7cf53 50 = .ok (.ldc 200, 2) := by decide +kernel
theorem dJ8_hugeLength_7cf53_52 : decode cJ8_hugeLength_7cf53 52 = .ok (.if_icmp .gt 6, 3) := by decide +kernel
theorem dJ8_hugeLength_7cf53_55 : decode cJ8_hugeLength_7cf53 55 = .ok (.ldc 200, 2) := by decide +kernel
theorem dJ8_hugeLength_7cf53_57 : decode cJ8_hugeLength_7cf53 57 = .ok (.ireturn, 1) := by decide +kernel
theorem dJ8_hugeLength_7cf53_58 : decode cJ8_hugeLength_7cf53 58 = .ok (.iload_n 2, 1) := by decide +kernel
theorem dJ8_hugeLength_7cf53_59 : decode cJ8_hugeLength_7cf53 59 = .ok (.ireturn, 1) := by decide +kernel
theorem dJ3_checkIndex_8e157_0 : decode cJ3_checkIndex_8e157 0 = .ok (.iload_n 0, 1) := by decide +kernel
theorem dJ3_checkIndex_8e157_1 : decode cJ3_checkIndex_8e157 1 = .ok (.ifCond .lt 8, 3) := by decide +kernel
theorem dJ3_checkIndex_8e157_4 : decode cJ3_checkIndex_8e157 4 = .ok (.iload_n 0, 1) := by decide +kernel
theorem dJ3_checkIndex_8e157_5 : decode cJ3_checkIndex_8e157 5 = .ok (.iload_n 1, 1) := by decide +kernel
theorem dJ3_checkIndex_8e157_6 : decode cJ3_checkIndex_8e157 6 = .ok (.if_icmp .lt 10, 3) := by decide +kernel
theorem dJ3_checkIndex_8e157_9 : decode cJ3_checkIndex_8e157 9 = .ok (.aload_n 2, 1) := by decide +kernel
theorem dJ3_checkIndex_8e157_10 : decode cJ3_checkIndex_8e157 10 = .ok (.iload_n 0, 1) := by decide +kernel
theorem dJ3_checkIndex_8e157_11 : decode cJ3_checkIndex_8e157 11 = .ok (.iload_n 1, 1) := by decide +kernel
theorem dJ3_checkIndex_8e157_12 : decode cJ3_checkIndex_8e157 12 = .ok (.invokestatic 95, 3) := by decide +kernel
theorem dJ3_checkIndex_8e157_15 : decode cJ3_checkIndex_8e157 15 = .ok (.athrow, 1) := by decide +kernel
theorem dJ3_checkIndex_8e157_16 : decode cJ3_checkIndex_8e157 16 = .ok (.iload_n 0, 1) := by decide +kernel
theorem dJ3_checkIndex_8e157_17 : decode cJ3_checkIndex_8e157 17 = .ok (.ireturn, 1) := by decide +kernel
theorem dL_law_0 : decode cL_law 0 = .ok (.new 7, 3) := by decide +kernel
theorem dL_law_3 : decode cL_law 3 = .ok (.dup, 1) := by decide +kernel
theorem dL_law_4 : decode cL_law 4 = .ok (.invokespecial 9, 3) := by decide +kernel
theorem dL_law_7 : decode cL_law 7 = .ok (.astore_n 1, 1) := by decide +kernel
theorem dL_law_8 : decode cL_law 8 = .ok (.new 10, 3) := by decide +kernel
theorem dL_law_11 : decode cL_law 11 = .ok (.dup, 1) := by decide +kernel
theorem dL_law_12 : decode cL_law 12 = .ok (.invokespecial 12, 3) := by decide +kernel
theorem dL_law_15 : decode cL_law 15 = .ok (.astore_n 2, 1) := by decide +kernel
theorem dL_law_16 : decode cL_law 16 = .ok (.iconst 0, 1) := by decide +kernel
theorem dL_law_17 : decode cL_law 17 = .ok (.istore_n 3, 1) := by decide +kernel
theorem dL_law_18 : decode cL_law 18 = .ok (.iload_n 3, 1) := by decide +kernel
theorem dL_law_19 : decode cL_law 19 = .ok (.aload_n 0, 1) := by decide +kernel
theorem dL_law_20 : decode cL_law 20 = .ok (.arraylength, 1) := by decide +kernel
theorem dL_law_21 : decode cL_law 21 = .ok (.bipush 6, 2) := by decide +kernel
theorem dL_law_23 : decode cL_law 23 = .ok (.isub, 1) := by decide +kernel
theorem dL_law_24 : decode cL_law 24 = .ok (.if_icmp .gt 857, 3) := by decide +kernel
theorem dL_law_27 : decode cL_law 27 = .ok (.aload_n 0, 1) := by decide +kernel
theorem dL_law_28 : decode cL_law 28 = .ok (.iload_n 3, 1) := by decide +kernel
theorem dL_law_29 : decode cL_law 29 = .ok (.iaload, 1) := by decide +kernel
theorem dL_law_30 : decode cL_law 30 = .ok (.bipush 31, 2) := by decide +kernel
theorem dL_law_32 : decode cL_law 32 = .ok (.iand, 1) := by decide +kernel
theorem dL_law_33 : decode cL_law 33 = .ok (.tableswitch 842 0 22 #[107, 120, 183, 206, 255, 298, 331, 364, 387, 430, 463, 496, 519, 552, 565, 598, 631, 654, 687, 720, 763, 786, 819], 107) := by decide +kernel
theorem dL_law_140 : decode cL_law 140 = .ok (.aload_n 1, 1) := by decide +kernel
theorem dL_law_141 : decode cL_law 141 = .ok (.invokevirtual 13, 3) := by decide +kernel
theorem dL_law_144 : decode cL_law 144 = .ok (.aload_n 2, 1) := by decide +kernel
theorem dL_law_145 : decode cL_law 145 = .ok (.invokevirtual 17, 3) := by decide +kernel
theorem dL_law_148 : decode cL_law 148 = .ok (.if_icmp .eq 727, 3) := by decide +kernel
theorem dL_law_151 : decode cL_law 151 = .ok (.iconst 0, 1) := by decide +kernel
theorem dL_law_152 : decode cL_law 152 = .ok (.ireturn, 1) := by decide +kernel
theorem dL_law_153 : decode cL_law 153 = .ok (.aload_n 1, 1) := by decide +kernel
theorem dL_law_154 : decode cL_law 154 = .ok (.aload_n 0, 1) := by decide +kernel
theorem dL_law_155 : decode cL_law 155 = .ok (.iload_n 3, 1) := by decide +kernel
theorem dL_law_156 : decode cL_law 156 = .ok (.iconst 1, 1) := by decide +kernel
theorem dL_law_157 : decode cL_law 157 = .ok (.iadd, 1) := by decide +kernel
theorem dL_law_158 : decode cL_law 158 = .ok (.iaload, 1) := by decide +kernel
theorem dL_law_159 : decode cL_law 159 = .ok (.aload_n 0, 1) := by decide +kernel
theorem dL_law_160 : decode cL_law 160 = .ok (.iload_n 3, 1) := by decide +kernel
theorem dL_law_161 : decode cL_law 161 = .ok (.iconst 2, 1) := by decide +kernel
theorem dL_law_162 : decode cL_law 162 = .ok (.iadd, 1) := by decide +kernel
theorem dL_law_163 : decode cL_law 163 = .ok (.iaload, 1) := by decide +kernel
theorem dL_law_164 : decode cL_law 164 = .ok (.aload_n 0, 1) := by decide +kernel
theorem dL_law_165 : decode cL_law 165 = .ok (.iload_n 3, 1) := by decide +kernel
theorem dL_law_166 : decode cL_law 166 = .ok (.iconst 3, 1) := by decide +kernel
theorem dL_law_167 : decode cL_law 167 = .ok (.iadd, 1) := by decide +kernel
theorem dL_law_168 : decode cL_law 168 = .ok (.iaload, 1) := by decide +kernel
theorem dL_law_169 : decode cL_law 169 = .ok (.aload_n 0, 1) := by decide +kernel
theorem dL_law_170 : decode cL_law 170 = .ok (.iload_n 3, 1) := by decide +kernel
theorem dL_law_171 : decode cL_law 171 = .ok (.iconst 4, 1) := by decide +kernel
theorem dL_law_172 : decode cL_law 172 = .ok (.iadd, 1) := by decide +kernel
theorem dL_law_173 : decode cL_law 173 = .ok (.iaload, 1) := by decide +kernel
theorem dL_law_174 : decode cL_law 174 = .ok (.aload_n 0, 1) := by decide +kernel
theorem dL_law_175 : decode cL_law 175 = .ok (.iload_n 3, 1) := by decide +kernel
theorem dL_law_176 : decode cL_law 176 = .ok (.iconst 5, 1) := by decide +kernel
theorem dL_law_177 : decode cL_law 177 = .ok (.iadd, 1) := by decide +kernel
theorem dL_law_178 : decode cL_law 178 = .ok (.iaload, 1) := by decide +kernel
theorem dL_law_179 : decode cL_law 179 = .ok (.invokevirtual 18, 3) := by decide +kernel
theorem dL_law_182 : decode cL_law 182 = .ok (.aload_n 2, 1) := by decide +kernel
theorem dL_law_183 : decode cL_law 183 = .ok (.aload_n 0, 1) := by decide +kernel
theorem dL_law_184 : decode cL_law 184 = .ok (.iload_n 3, 1) := by decide +kernel
theorem dL_law_185 : decode cL_law 185 = .ok (.iconst 1, 1) := by decide +kernel
theorem dL_law_186 : decode cL_law 186 = .ok (.iadd, 1) := by decide +kernel
theorem dL_law_187 : decode cL_law 187 = .ok (.iaload, 1) := by decide +kernel
theorem dL_law_188 : decode cL_law 188 = .ok (.aload_n 0, 1) := by decide +kernel
theorem dL_law_189 : decode cL_law 189 = .ok (.iload_n 3, 1) := by decide +kernel
theorem dL_law_190 : decode cL_law 190 = .ok (.iconst 2, 1) := by decide +kernel
theorem dL_law_191 : decode cL_law 191 = .ok (.iadd, 1) := by decide +kernel
theorem dL_law_192 : decode cL_law 192 = .ok (.iaload, 1) := by decide +kernel
theorem dL_law_193 : decode cL_law 193 = .ok (.aload_n 0, 1) := by decide +kernel
theorem dL_law_194 : decode cL_law 194 = .ok (.iload_n 3, 1) := by decide +kernel
theorem dL_law_195 : decode cL_law 195 = .ok (.iconst 3, 1) := by decide +kernel
theorem dL_law_196 : decode cL_law 196 = .ok (.iadd, 1) := by decide +kernel
theorem dL_law_197 : decode cL_law 197 = .ok (.iaload, 1) := by decide +kernel
theorem dL_law_198 : decode cL_law 198 = .ok (.aload_n 0, 1) := by decide +kernel
theorem dL_law_199 : decode cL_law 199 = .ok (.iload_n 3, 1) := by decide +kernel
theorem dL_law_200 : decode cL_law 200 = .ok (.iconst 4, 1) := by decide +kernel
theorem dL_law_201 : decode cL_law 201 = .ok (.iadd, 1) := by decide +kernel
theorem dL_law_202 : decode cL_law 202 = .ok (.iaload, 1) := by decide +kernel
theorem dL_law_203 : decode cL_law 203 = .ok (.aload_n 0, 1) := by decide +kernel
theorem dL_law_204 : decode cL_law 204 = .ok (.iload_n 3, 1) := by decide +kernel
theorem dL_law_205 : decode cL_law 205 = .ok (.iconst 5, 1) := by decide +kernel
theorem dL_law_206 : decode cL_law 206 = .ok (.iadd, 1) := by decide +kernel
theorem dL_law_207 : decode cL_law 207 = .ok (.iaload, 1) := by decide +kernel
theorem dL_law_208 : decode cL_law 208 = .ok (.invokevirtual 22, 3) := by decide +kernel
theorem dL_law_211 : decode cL_law 211 = .ok (.if_icmp .eq 664, 3) := by decide +kernel
theorem dL_law_214 : decode cL_law 214 = .ok (.iconst 0, 1) := by decide +kernel
theorem dL_law_215 : decode cL_law 215 = .ok (.ireturn, 1) := by decide +kernel
theorem dL_law_216 : decode cL_law 216 = .ok (.aload_n 1, 1) := by decide +kernel
theorem dL_law_217 : decode cL_law 217 = .ok (.aload_n 0, 1) := by decide +kernel
theorem dL_law_218 : decode cL_law 218 = .ok (.iload_n 3, 1) := by decide +kernel
theorem dL_law_219 : decode cL_law 219 = .ok (.iconst 1, 1) := by decide +kernel
theorem dL_law_220 : decode cL_law 220 = .ok (.iadd, 1) := by decide +kernel
theorem dL_law_221 : decode cL_law 221 = .ok (.iaload, 1) := by decide +kernel
theorem dL_law_222 : decode cL_law 222 = .ok (.invokevirtual 23, 3) := by decide +kernel
theorem dL_law_225 : decode cL_law 225 = .ok (.aload_n 2, 1) := by decide +kernel
theorem dL_law_226 : decode cL_law 226 = .ok (.aload_n 0, 1) := by decide +kernel
theorem dL_law_227 : decode cL_law 227 = .ok (.iload_n 3, 1) := by decide +kernel
theorem dL_law_228 : decode cL_law 228 = .ok (.iconst 1, 1) := by decide +kernel
theorem dL_law_229 : decode cL_law 229 = .ok (.iadd, 1) := by decide +kernel
theorem dL_law_230 : decode cL_law 230 = .ok (.iaload, 1) := by decide +kernel
theorem dL_law_231 : decode cL_law 231 = .ok (.invokevirtual 27, 3) := by decide +kernel
theorem dL_law_234 : decode cL_law 234 = .ok (.if_icmp .eq 641, 3) := by decide +kernel
theorem dL_law_237 : decode cL_law 237 = .ok (.iconst 0, 1) := by decide +kernel
theorem dL_law_238 : decode cL_law 238 = .ok (.ireturn, 1) := by decide +kernel
theorem dL_law_239 : decode cL_law 239 = .ok (.aload_n 1, 1) := by decide +kernel
theorem dL_law_240 : decode cL_law 240 = .ok (.aload_n 0, 1) := by decide +kernel
theorem dL_law_241 : decode cL_law 241 = .ok (.iload_n 3, 1) := by decide +kernel
theorem dL_law_242 : decode cL_law 242 = .ok (.iconst 1, 1) := by decide +kernel
theorem dL_law_243 : decode cL_law 243 = .ok (.iadd, 1) := by decide +kernel
theorem dL_law_244 : decode cL_law 244 = .ok (.iaload, 1) := by decide +kernel
theorem dL_law_245 : decode cL_law 245 = .ok (.aload_n 0, 1) := by decide +kernel
theorem dL_law_246 : decode cL_law 246 = .ok (.iload_n 3, 1) := by decide +kernel
theorem dL_law_247 : decode cL_law 247 = .ok (.iconst 2, 1) := by decide +kernel
theorem dL_law_248 : decode cL_law 248 = .ok (.iadd, 1) := by decide +kernel
theorem dL_law_249 : decode cL_law 249 = .ok (.iaload, 1) := by decide +kernel
theorem dL_law_250 : decode cL_law 250 = .ok (.ifCond .eq 7, 3) := by decide +kernel
theorem dL_law_253 : decode cL_law 253 = .ok (.iconst 1, 1) := by decide +kernel
theorem dL_law_254 : decode cL_law 254 = .ok (.goto 4, 3) := by decide +kernel
theorem dL_law_257 : decode cL_law 257 = .ok (.iconst 0, 1) := by decide +kernel
theorem dL_law_258 : decode cL_law 258 = .ok (.invokevirtual 28, 3) := by decide +kernel
theorem dL_law_261 : decode cL_law 261 = .ok (.aload_n 2, 1) := by decide +kernel
theorem dL_law_262 : decode cL_law 262 = .ok (.aload_n 0, 1) := by decide +kernel
theorem dL_law_263 : decode cL_law 263 = .ok (.iload_n 3, 1) := by decide +kernel
theorem dL_law_264 : decode cL_law 264 = .ok (.iconst 1, 1) := by decide +kernel
theorem dL_law_265 : decode cL_law 265 = .ok (.iadd, 1) := by decide +kernel
theorem dL_law_266 : decode cL_law 266 = .ok (.iaload, 1) := by decide +kernel
theorem dL_law_267 : decode cL_law 267 = .ok (.aload_n 0, 1) := by decide +kernel
theorem dL_law_268 : decode cL_law 268 = .ok (.iload_n 3, 1) := by decide +kernel
theorem dL_law_269 : decode cL_law 269 = .ok (.iconst 2, 1) := by decide +kernel
theorem dL_law_270 : decode cL_law 270 = .ok (.iadd, 1) := by decide +kernel
theorem dL_law_271 : decode cL_law 271 = .ok (.iaload, 1) := by decide +kernel
theorem dL_law_272 : decode cL_law 272 = .ok (.ifCond .eq 7, 3) := by decide +kernel
theorem dL_law_275 : decode cL_law 275 = .ok (.iconst 1, 1) := by decide +kernel
theorem dL_law_276 : decode cL_law 276 = .ok (.goto 4, 3) := by decide +kernel
theorem dL_law_279 : decode cL_law 279 = .ok (.iconst 0, 1) := by decide +kernel
theorem dL_law_280 : decode cL_law 280 = .ok (.invokevirtual 32, 3) := by decide +kernel
theorem dL_law_283 : decode cL_law 283 = .ok (.if_icmp .eq 592, 3) := by decide +kernel
theorem dL_law_286 : decode cL_law 286 = .ok (.iconst 0, 1) := by decide +kernel
theorem dL_law_287 : decode cL_law 287 = .ok (.ireturn, 1) := by decide +kernel
theorem dL_law_288 : decode cL_law 288 = .ok (.aload_n 1, 1) := by decide +kernel
theorem dL_law_289 : decode cL_law 289 = .ok (.aload_n 0, 1) := by decide +kernel
theorem dL_law_290 : decode cL_law 290 = .ok (.iload_n 3, 1) := by decide +kernel
theorem dL_law_291 : decode cL_law 291 = .ok (.iconst 1, 1) := by decide +kernel
theorem dL_law_292 : decode cL_law 292 = .ok (.iadd, 1) := by decide +kernel
theorem dL_law_293 : decode cL_law 293 = .ok (.iaload, 1) := by decide +kernel
theorem dL_law_294 : decode cL_law 294 = .ok (.aload_n 0, 1) := by decide +kernel
theorem dL_law_295 : decode cL_law 295 = .ok (.iload_n 3, 1) := by decide +kernel
theorem dL_law_296 : decode cL_law 296 = .ok (.iconst 2, 1) := by decide +kernel
theorem dL_law_297 : decode cL_law 297 = .ok (.iadd, 1) := by decide +kernel
theorem dL_law_298 : decode cL_law 298 = .ok (.iaload, 1) := by decide +kernel
theorem dL_law_299 : decode cL_law 299 = .ok (.aload_n 0, 1) := by decide +kernel
theorem dL_law_300 : decode cL_law 300 = .ok (.iload_n 3, 1) := by decide +kernel
theorem dL_law_301 : decode cL_law 301 = .ok (.iconst 3, 1) := by decide +kernel
theorem dL_law_302 : decode cL_law 302 = .ok (.iadd, 1) := by decide +kernel
theorem dL_law_303 : decode cL_law 303 = .ok (.iaload, 1) := by decide +kernel
theorem dL_law_304 : decode cL_law 304 = .ok (.invokevirtual 33, 3) := by decide +kernel
theorem dL_law_307 : decode cL_law 307 = .ok (.aload_n 2, 1) := by decide +kernel
theorem dL_law_308 : decode cL_law 308 = .ok (.aload_n 0, 1) := by decide +kernel
theorem dL_law_309 : decode cL_law 309 = .ok (.iload_n 3, 1) := by decide +kernel
theorem dL_law_310 : decode cL_law 310 = .ok (.iconst 1, 1) := by decide +kernel
theorem dL_law_311 : decode cL_law 311 = .ok (.iadd, 1) := by decide +kernel
theorem dL_law_312 : decode cL_law 312 = .ok (.iaload, 1) := by decide +kernel
theorem dL_law_313 : decode cL_law 313 = .ok (.aload_n 0, 1) := by decide +kernel
theorem dL_law_314 : decode cL_law 314 = .ok (.iload_n 3, 1) := by decide +kernel
theorem dL_law_315 : decode cL_law 315 = .ok (.iconst 2, 1) := by decide +kernel
theorem dL_law_316 : decode cL_law 316 = .ok (.iadd, 1) := by decide +kernel
theorem dL_law_317 : decode cL_law 317 = .ok (.iaload, 1) := by decide +kernel
theorem dL_law_318 : decode cL_law 318 = .ok (.aload_n 0, 1) := by decide +kernel
theorem dL_law_319 : decode cL_law 319 = .ok (.iload_n 3, 1) := by decide +kernel
theorem dL_law_320 : decode cL_law 320 = .ok (.iconst 3, 1) := by decide +kernel
theorem dL_law_321 : decode cL_law 321 = .ok (.iadd, 1) := by decide +kernel
theorem dL_law_322 : decode cL_law 322 = .ok (.iaload, 1) := by decide +kernel
theorem dL_law_323 : decode cL_law 323 = .ok (.invokevirtual 37, 3) := by decide +kernel
theorem dL_law_326 : decode cL_law 326 = .ok (.if_icmp .eq 549, 3) := by decide +kernel
theorem dL_law_329 : decode cL_law 329 = .ok (.iconst 0, 1) := by decide +kernel
theorem dL_law_330 : decode cL_law 330 = .ok (.ireturn, 1) := by decide +kernel
theorem dL_law_331 : decode cL_law 331 = .ok (.aload_n 1, 1) := by decide +kernel
theorem dL_law_332 : decode cL_law 332 = .ok (.aload_n 0, 1) := by decide +kernel
theorem dL_law_333 : decode cL_law 333 = .ok (.iload_n 3, 1) := by decide +kernel
theorem dL_law_334 : decode cL_law 334 = .ok (.iconst 1, 1) := by decide +kernel
theorem dL_law_335 : decode cL_law 335 = .ok (.iadd, 1) := by decide +kernel
theorem dL_law_336 : decode cL_law 336 = .ok (.iaload, 1) := by decide +kernel
theorem dL_law_337 : decode cL_law 337 = .ok (.aload_n 0, 1) := by decide +kernel
theorem dL_law_338 : decode cL_law 338 = .ok (.iload_n 3, 1) := by decide +kernel
theorem dL_law_339 : decode cL_law 339 = .ok (.iconst 2, 1) := by decide +kernel
theorem dL_law_340 : decode cL_law 340 = .ok (.iadd, 1) := by decide +kernel
theorem dL_law_341 : decode cL_law 341 = .ok (.iaload, 1) := by decide +kernel
theorem dL_law_342 : decode cL_law 342 = .ok (.invokevirtual 38, 3) := by decide +kernel
theorem dL_law_345 : decode cL_law 345 = .ok (.aload_n 2, 1) := by decide +kernel
theorem dL_law_346 : decode cL_law 346 = .ok (.aload_n 0, 1) := by decide +kernel
theorem dL_law_347 : decode cL_law 347 = .ok (.iload_n 3, 1) := by decide +kernel
theorem dL_law_348 : decode cL_law 348 = .ok (.iconst 1, 1) := by decide +kernel
theorem dL_law_349 : decode cL_law 349 = .ok (.iadd, 1) := by decide +kernel
theorem dL_law_350 : decode cL_law 350 = .ok (.iaload, 1) := by decide +kernel
theorem dL_law_351 : decode cL_law 351 = .ok (.aload_n 0, 1) := by decide +kernel
theorem dL_law_352 : decode cL_law 352 = .ok (.iload_n 3, 1) := by decide +kernel
theorem dL_law_353 : decode cL_law 353 = .ok (.iconst 2, 1) := by decide +kernel
theorem dL_law_354 : decode cL_law 354 = .ok (.iadd, 1) := by decide +kernel
theorem dL_law_355 : decode cL_law 355 = .ok (.iaload, 1) := by decide +kernel
theorem dL_law_356 : decode cL_law 356 = .ok (.invokevirtual 42, 3) := by decide +kernel
theorem dL_law_359 : decode cL_law 359 = .ok (.if_icmp .eq 516, 3) := by decide +kernel
theorem dL_law_362 : decode cL_law 362 = .ok (.iconst 0, 1) := by decide +kernel
theorem dL_law_363 : decode cL_law 363 = .ok (.ireturn, 1) := by decide +kernel
theorem dL_law_364 : decode cL_law 364 = .ok (.aload_n 1, 1) := by decide +kernel
theorem dL_law_365 : decode cL_law 365 = .ok (.aload_n 0, 1) := by decide +kernel
theorem dL_law_366 : decode cL_law 366 = .ok (.iload_n 3, 1) := by decide +kernel
theorem dL_law_367 : decode cL_law 367 = .ok (.iconst 1, 1) := by decide +kernel
theorem dL_law_368 : decode cL_law 368 = .ok (.iadd, 1) := by decide +kernel
theorem dL_law_369 : decode cL_law 369 = .ok (.iaload, 1) := by decide +kernel
theorem dL_law_370 : decode cL_law 370 = .ok (.aload_n 0, 1) := by decide +kernel
theorem dL_law_371 : decode cL_law 371 = .ok (.iload_n 3, 1) := by decide +kernel
theorem dL_law_372 : decode cL_law 372 = .ok (.iconst 2, 1) := by decide +kernel
theorem dL_law_373 : decode cL_law 373 = .ok (.iadd, 1) := by decide +kernel
theorem dL_law_374 : decode cL_law 374 = .ok (.iaload, 1) := by decide +kernel
theorem dL_law_375 : decode cL_law 375 = .ok (.invokevirtual 43, 3) := by decide +kernel
theorem dL_law_378 : decode cL_law 378 = .ok (.aload_n 2, 1) := by decide +kernel
theorem dL_law_379 : decode cL_law 379 = .ok (.aload_n 0, 1) := by decide +kernel
theorem dL_law_380 : decode cL_law 380 = .ok (.iload_n 3, 1) := by decide +kernel
theorem dL_law_381 : decode cL_law 381 = .ok (.iconst 1, 1) := by decide +kernel
theorem dL_law_382 : decode cL_law 382 = .ok (.iadd, 1) := by decide +kernel
theorem dL_law_383 : decode cL_law 383 = .ok (.iaload, 1) := by decide +kernel
theorem dL_law_384 : decode cL_law 384 = .ok (.aload_n 0, 1) := by decide +kernel
theorem dL_law_385 : decode cL_law 385 = .ok (.iload_n 3, 1) := by decide +kernel
theorem dL_law_386 : decode cL_law 386 = .ok (.iconst 2, 1) := by decide +kernel
theorem dL_law_387 : decode cL_law 387 = .ok (.iadd, 1) := by decide +kernel
theorem dL_law_388 : decode cL_law 388 = .ok (.iaload, 1) := by decide +kernel
theorem dL_law_389 : decode cL_law 389 = .ok (.invokevirtual 46, 3) := by decide +kernel
theorem dL_law_392 : decode cL_law 392 = .ok (.if_icmp .eq 483, 3) := by decide +kernel
theorem dL_law_395 : decode cL_law 395 = .ok (.iconst 0, 1) := by decide +kernel
theorem dL_law_396 : decode cL_law 396 = .ok (.ireturn, 1) := by decide +kernel
theorem dL_law_397 : decode cL_law 397 = .ok (.aload_n 1, 1) := by decide +kernel
theorem dL_law_398 : decode cL_law 398 = .ok (.aload_n 0, 1) := by decide +kernel
theorem dL_law_399 : decode cL_law 399 = .ok (.iload_n 3, 1) := by decide +kernel
theorem dL_law_400 : decode cL_law 400 = .ok (.iconst 1, 1) := by decide +kernel
theorem dL_law_401 : decode cL_law 401 = .ok (.iadd, 1) := by decide +kernel
theorem dL_law_402 : decode cL_law 402 = .ok (.iaload, 1) := by decide +kernel
theorem dL_law_403 : decode cL_law 403 = .ok (.invokevirtual 47, 3) := by decide +kernel
theorem dL_law_406 : decode cL_law 406 = .ok (.aload_n 2, 1) := by decide +kernel
theorem dL_law_407 : decode cL_law 407 = .ok (.aload_n 0, 1) := by decide +kernel
theorem dL_law_408 : decode cL_law 408 = .ok (.iload_n 3, 1) := by decide +kernel
theorem dL_law_409 : decode cL_law 409 = .ok (.iconst 1, 1) := by decide +kernel
theorem dL_law_410 : decode cL_law 410 = .ok (.iadd, 1) := by decide +kernel
theorem dL_law_411 : decode cL_law 411 = .ok (.iaload, 1) := by decide +kernel
theorem dL_law_412 : decode cL_law 412 = .ok (.invokevirtual 50, 3) := by decide +kernel
theorem dL_law_415 : decode cL_law 415 = .ok (.if_icmp .eq 460, 3) := by decide +kernel
theorem dL_law_418 : decode cL_law 418 = .ok (.iconst 0, 1) := by decide +kernel
theorem dL_law_419 : decode cL_law 419 = .ok (.ireturn, 1) := by decide +kernel
theorem dL_law_420 : decode cL_law 420 = .ok (.aload_n 1, 1) := by decide +kernel
theorem dL_law_421 : decode cL_law 421 = .ok (.aload_n 0, 1) := by decide +kernel
theorem dL_law_422 : decode cL_law 422 = .ok (.iload_n 3, 1) := by decide +kernel
theorem dL_law_423 : decode cL_law 423 = .ok (.iconst 1, 1) := by decide +kernel
theorem dL_law_424 : decode cL_law 424 = .ok (.iadd, 1) := by decide +kernel
theorem dL_law_425 : decode cL_law 425 = .ok (.iaload, 1) := by decide +kernel
theorem dL_law_426 : decode cL_law 426 = .ok (.aload_n 0, 1) := by decide +kernel
theorem dL_law_427 : decode cL_law 427 = .ok (.iload_n 3, 1) := by decide +kernel
theorem dL_law_428 : decode cL_law 428 = .ok (.iconst 2, 1) := by decide +kernel
theorem dL_law_429 : decode cL_law 429 = .ok (.iadd, 1) := by decide +kernel
theorem dL_law_430 : decode cL_law 430 = .ok (.iaload, 1) := by decide +kernel
theorem dL_law_431 : decode cL_law 431 = .ok (.aload_n 0, 1) := by decide +kernel
theorem dL_law_432 : decode cL_law 432 = .ok (.iload_n 3, 1) := by decide +kernel
theorem dL_law_433 : decode cL_law 433 = .ok (.iconst 3, 1) := by decide +kernel
theorem dL_law_434 : decode cL_law 434 = .ok (.iadd, 1) := by decide +kernel
theorem dL_law_435 : decode cL_law 435 = .ok (.iaload, 1) := by decide +kernel
theorem dL_law_436 : decode cL_law 436 = .ok (.invokevirtual 51, 3) := by decide +kernel
theorem dL_law_439 : decode cL_law 439 = .ok (.aload_n 2, 1) := by decide +kernel
theorem dL_law_440 : decode cL_law 440 = .ok (.aload_n 0, 1) := by decide +kernel
theorem dL_law_441 : decode cL_law 441 = .ok (.iload_n 3, 1) := by decide +kernel
theorem dL_law_442 : decode cL_law 442 = .ok (.iconst 1, 1) := by decide +kernel
theorem dL_law_443 : decode cL_law 443 = .ok (.iadd, 1) := by decide +kernel
theorem dL_law_444 : decode cL_law 444 = .ok (.iaload, 1) := by decide +kernel
theorem dL_law_445 : decode cL_law 445 = .ok (.aload_n 0, 1) := by decide +kernel
theorem dL_law_446 : decode cL_law 446 = .ok (.iload_n 3, 1) := by decide +kernel
theorem dL_law_447 : decode cL_law 447 = .ok (.iconst 2, 1) := by decide +kernel
theorem dL_law_448 : decode cL_law 448 = .ok (.iadd, 1) := by decide +kernel
theorem dL_law_449 : decode cL_law 449 = .ok (.iaload, 1) := by decide +kernel
theorem dL_law_450 : decode cL_law 450 = .ok (.aload_n 0, 1) := by decide +kernel
theorem dL_law_451 : decode cL_law 451 = .ok (.iload_n 3, 1) := by decide +kernel
theorem dL_law_452 : decode cL_law 452 = .ok (.iconst 3, 1) := by decide +kernel
theorem dL_law_453 : decode cL_law 453 = .ok (.iadd, 1) := by decide +kernel
theorem dL_law_454 : decode cL_law 454 = .ok (.iaload, 1) := by decide +kernel
theorem dL_law_455 : decode cL_law 455 = .ok (.invokevirtual 54, 3) := by decide +kernel
theorem dL_law_458 : decode cL_law 458 = .ok (.if_icmp .eq 417, 3) := by decide +kernel
theorem dL_law_461 : decode cL_law 461 = .ok (.iconst 0, 1) := by decide +kernel
theorem dL_law_462 : decode cL_law 462 = .ok (.ireturn, 1) := by decide +kernel
theorem dL_law_463 : decode cL_law 463 = .ok (.aload_n 1, 1) := by decide +kernel
theorem dL_law_464 : decode cL_law 464 = .ok (.aload_n 0, 1) := by decide +kernel
theorem dL_law_465 : decode cL_law 465 = .ok (.iload_n 3, 1) := by decide +kernel
theorem dL_law_466 : decode cL_law 466 = .ok (.iconst 1, 1) := by decide +kernel
theorem dL_law_467 : decode cL_law 467 = .ok (.iadd, 1) := by decide +kernel
theorem dL_law_468 : decode cL_law 468 = .ok (.iaload, 1) := by decide +kernel
theorem dL_law_469 : decode cL_law 469 = .ok (.aload_n 0, 1) := by decide +kernel
theorem dL_law_470 : decode cL_law 470 = .ok (.iload_n 3, 1) := by decide +kernel
theorem dL_law_471 : decode cL_law 471 = .ok (.iconst 2, 1) := by decide +kernel
theorem dL_law_472 : decode cL_law 472 = .ok (.iadd, 1) := by decide +kernel
theorem dL_law_473 : decode cL_law 473 = .ok (.iaload, 1) := by decide +kernel
theorem dL_law_474 : decode cL_law 474 = .ok (.invokevirtual 55, 3) := by decide +kernel
theorem dL_law_477 : decode cL_law 477 = .ok (.aload_n 2, 1) := by decide +kernel
theorem dL_law_478 : decode cL_law 478 = .ok (.aload_n 0, 1) := by decide +kernel
theorem dL_law_479 : decode cL_law 479 = .ok (.iload_n 3, 1) := by decide +kernel
theorem dL_law_480 : decode cL_law 480 = .ok (.iconst 1, 1) := by decide +kernel
theorem dL_law_481 : decode cL_law 481 = .ok (.iadd, 1) := by decide +kernel
theorem dL_law_482 : decode cL_law 482 = .ok (.iaload, 1) := by decide +kernel
theorem dL_law_483 : decode cL_law 483 = .ok (.aload_n 0, 1) := by decide +kernel
theorem dL_law_484 : decode cL_law 484 = .ok (.iload_n 3, 1) := by decide +kernel
theorem dL_law_485 : decode cL_law 485 = .ok (.iconst 2, 1) := by decide +kernel
theorem dL_law_486 : decode cL_law 486 = .ok (.iadd, 1) := by decide +kernel
theorem dL_law_487 : decode cL_law 487 = .ok (.iaload, 1) := by decide +kernel
theorem dL_law_488 : decode cL_law 488 = .ok (.invokevirtual 58, 3) := by decide +kernel
theorem dL_law_491 : decode cL_law 491 = .ok (.if_icmp .eq 384, 3) := by decide +kernel
theorem dL_law_494 : decode cL_law 494 = .ok (.iconst 0, 1) := by decide +kernel
theorem dL_law_495 : decode cL_law 495 = .ok (.ireturn, 1) := by decide +kernel
theorem dL_law_496 : decode cL_law 496 = .ok (.aload_n 1, 1) := by decide +kernel
theorem dL_law_497 : decode cL_law 497 = .ok (.aload_n 0, 1) := by decide +kernel
theorem dL_law_498 : decode cL_law 498 = .ok (.iload_n 3, 1) := by decide +kernel
theorem dL_law_499 : decode cL_law 499 = .ok (.iconst 1, 1) := by decide +kernel
theorem dL_law_500 : decode cL_law 500 = .ok (.iadd, 1) := by decide +kernel
theorem dL_law_501 : decode cL_law 501 = .ok (.iaload, 1) := by decide +kernel
theorem dL_law_502 : decode cL_law 502 = .ok (.aload_n 0, 1) := by decide +kernel
theorem dL_law_503 : decode cL_law 503 = .ok (.iload_n 3, 1) := by decide +kernel
theorem dL_law_504 : decode cL_law 504 = .ok (.iconst 2, 1) := by decide +kernel
theorem dL_law_505 : decode cL_law 505 = .ok (.iadd, 1) := by decide +kernel
theorem dL_law_506 : decode cL_law 506 = .ok (.iaload, 1) := by decide +kernel
theorem dL_law_507 : decode cL_law 507 = .ok (.invokevirtual 59, 3) := by decide +kernel
theorem dL_law_510 : decode cL_law 510 = .ok (.aload_n 2, 1) := by decide +kernel
theorem dL_law_511 : decode cL_law 511 = .ok (.aload_n 0, 1) := by decide +kernel
theorem dL_law_512 : decode cL_law 512 = .ok (.iload_n 3, 1) := by decide +kernel
theorem dL_law_513 : decode cL_law 513 = .ok (.iconst 1, 1) := by decide +kernel
theorem dL_law_514 : decode cL_law 514 = .ok (.iadd, 1) := by decide +kernel
theorem dL_law_515 : decode cL_law 515 = .ok (.iaload, 1) := by decide +kernel
theorem dL_law_516 : decode cL_law 516 = .ok (.aload_n 0, 1) := by decide +kernel
theorem dL_law_517 : decode cL_law 517 = .ok (.iload_n 3, 1) := by decide +kernel
theorem dL_law_518 : decode cL_law 518 = .ok (.iconst 2, 1) := by decide +kernel
theorem dL_law_519 : decode cL_law 519 = .ok (.iadd, 1) := by decide +kernel
theorem dL_law_520 : decode cL_law 520 = .ok (.iaload, 1) := by decide +kernel
theorem dL_law_521 : decode cL_law 521 = .ok (.invokevirtual 62, 3) := by decide +kernel
theorem dL_law_524 : decode cL_law 524 = .ok (.if_icmp .eq 351, 3) := by decide +kernel
theorem dL_law_527 : decode cL_law 527 = .ok (.iconst 0, 1) := by decide +kernel
theorem dL_law_528 : decode cL_law 528 = .ok (.ireturn, 1) := by decide +kernel
theorem dL_law_529 : decode cL_law 529 = .ok (.aload_n 1, 1) := by decide +kernel
theorem dL_law_530 : decode cL_law 530 = .ok (.aload_n 0, 1) := by decide +kernel
theorem dL_law_531 : decode cL_law 531 = .ok (.iload_n 3, 1) := by decide +kernel
theorem dL_law_532 : decode cL_law 532 = .ok (.iconst 1, 1) := by decide +kernel
theorem dL_law_533 : decode cL_law 533 = .ok (.iadd, 1) := by decide +kernel
theorem dL_law_534 : decode cL_law 534 = .ok (.iaload, 1) := by decide +kernel
theorem dL_law_535 : decode cL_law 535 = .ok (.invokevirtual 63, 3) := by decide +kernel
theorem dL_law_538 : decode cL_law 538 = .ok (.aload_n 2, 1) := by decide +kernel
theorem dL_law_539 : decode cL_law 539 = .ok (.aload_n 0, 1) := by decide +kernel
theorem dL_law_540 : decode cL_law 540 = .ok (.iload_n 3, 1) := by decide +kernel
theorem dL_law_541 : decode cL_law 541 = .ok (.iconst 1, 1) := by decide +kernel
theorem dL_law_542 : decode cL_law 542 = .ok (.iadd, 1) := by decide +kernel
theorem dL_law_543 : decode cL_law 543 = .ok (.iaload, 1) := by decide +kernel
theorem dL_law_544 : decode cL_law 544 = .ok (.invokevirtual 66, 3) := by decide +kernel
theorem dL_law_547 : decode cL_law 547 = .ok (.if_icmp .eq 328, 3) := by decide +kernel
theorem dL_law_550 : decode cL_law 550 = .ok (.iconst 0, 1) := by decide +kernel
theorem dL_law_551 : decode cL_law 551 = .ok (.ireturn, 1) := by decide +kernel
theorem dL_law_552 : decode cL_law 552 = .ok (.aload_n 1, 1) := by decide +kernel
theorem dL_law_553 : decode cL_law 553 = .ok (.aload_n 0, 1) := by decide +kernel
theorem dL_law_554 : decode cL_law 554 = .ok (.iload_n 3, 1) := by decide +kernel
theorem dL_law_555 : decode cL_law 555 = .ok (.iconst 1, 1) := by decide +kernel
theorem dL_law_556 : decode cL_law 556 = .ok (.iadd, 1) := by decide +kernel
theorem dL_law_557 : decode cL_law 557 = .ok (.iaload, 1) := by decide +kernel
theorem dL_law_558 : decode cL_law 558 = .ok (.aload_n 0, 1) := by decide +kernel
theorem dL_law_559 : decode cL_law 559 = .ok (.iload_n 3, 1) := by decide +kernel
theorem dL_law_560 : decode cL_law 560 = .ok (.iconst 2, 1) := by decide +kernel
theorem dL_law_561 : decode cL_law 561 = .ok (.iadd, 1) := by decide +kernel
theorem dL_law_562 : decode cL_law 562 = .ok (.iaload, 1) := by decide +kernel
theorem dL_law_563 : decode cL_law 563 = .ok (.invokevirtual 67, 3) := by decide +kernel
theorem dL_law_566 : decode cL_law 566 = .ok (.aload_n 2, 1) := by decide +kernel
theorem dL_law_567 : decode cL_law 567 = .ok (.aload_n 0, 1) := by decide +kernel
theorem dL_law_568 : decode cL_law 568 = .ok (.iload_n 3, 1) := by decide +kernel
theorem dL_law_569 : decode cL_law 569 = .ok (.iconst 1, 1) := by decide +kernel
theorem dL_law_570 : decode cL_law 570 = .ok (.iadd, 1) := by decide +kernel
theorem dL_law_571 : decode cL_law 571 = .ok (.iaload, 1) := by decide +kernel
theorem dL_law_572 : decode cL_law 572 = .ok (.aload_n 0, 1) := by decide +kernel
theorem dL_law_573 : decode cL_law 573 = .ok (.iload_n 3, 1) := by decide +kernel
theorem dL_law_574 : decode cL_law 574 = .ok (.iconst 2, 1) := by decide +kernel
theorem dL_law_575 : decode cL_law 575 = .ok (.iadd, 1) := by decide +kernel
theorem dL_law_576 : decode cL_law 576 = .ok (.iaload, 1) := by decide +kernel
theorem dL_law_577 : decode cL_law 577 = .ok (.invokevirtual 70, 3) := by decide +kernel
theorem dL_law_580 : decode cL_law 580 = .ok (.if_icmp .eq 295, 3) := by decide +kernel
theorem dL_law_583 : decode cL_law 583 = .ok (.iconst 0, 1) := by decide +kernel
theorem dL_law_584 : decode cL_law 584 = .ok (.ireturn, 1) := by decide +kernel
theorem dL_law_585 : decode cL_law 585 = .ok (.aload_n 1, 1) := by decide +kernel
theorem dL_law_586 : decode cL_law 586 = .ok (.invokevirtual 71, 3) := by decide +kernel
theorem dL_law_589 : decode cL_law 589 = .ok (.aload_n 2, 1) := by decide +kernel
theorem dL_law_590 : decode cL_law 590 = .ok (.invokevirtual 74, 3) := by decide +kernel
theorem dL_law_593 : decode cL_law 593 = .ok (.if_icmp .eq 282, 3) := by decide +kernel
theorem dL_law_596 : decode cL_law 596 = .ok (.iconst 0, 1) := by decide +kernel
theorem dL_law_597 : decode cL_law 597 = .ok (.ireturn, 1) := by decide +kernel
theorem dL_law_598 : decode cL_law 598 = .ok (.aload_n 1, 1) := by decide +kernel
theorem dL_law_599 : decode cL_law 599 = .ok (.aload_n 0, 1) := by decide +kernel
theorem dL_law_600 : decode cL_law 600 = .ok (.iload_n 3, 1) := by decide +kernel
theorem dL_law_601 : decode cL_law 601 = .ok (.iconst 1, 1) := by decide +kernel
theorem dL_law_602 : decode cL_law 602 = .ok (.iadd, 1) := by decide +kernel
theorem dL_law_603 : decode cL_law 603 = .ok (.iaload, 1) := by decide +kernel
theorem dL_law_604 : decode cL_law 604 = .ok (.aload_n 0, 1) := by decide +kernel
theorem dL_law_605 : decode cL_law 605 = .ok (.iload_n 3, 1) := by decide +kernel
theorem dL_law_606 : decode cL_law 606 = .ok (.iconst 2, 1) := by decide +kernel
theorem dL_law_607 : decode cL_law 607 = .ok (.iadd, 1) := by decide +kernel
theorem dL_law_608 : decode cL_law 608 = .ok (.iaload, 1) := by decide +kernel
theorem dL_law_609 : decode cL_law 609 = .ok (.invokevirtual 75, 3) := by decide +kernel
theorem dL_law_612 : decode cL_law 612 = .ok (.aload_n 2, 1) := by decide +kernel
theorem dL_law_613 : decode cL_law 613 = .ok (.aload_n 0, 1) := by decide +kernel
theorem dL_law_614 : decode cL_law 614 = .ok (.iload_n 3, 1) := by decide +kernel
theorem dL_law_615 : decode cL_law 615 = .ok (.iconst 1, 1) := by decide +kernel
theorem dL_law_616 : decode cL_law 616 = .ok (.iadd, 1) := by decide +kernel
theorem dL_law_617 : decode cL_law 617 = .ok (.iaload, 1) := by decide +kernel
theorem dL_law_618 : decode cL_law 618 = .ok (.aload_n 0, 1) := by decide +kernel
theorem dL_law_619 : decode cL_law 619 = .ok (.iload_n 3, 1) := by decide +kernel
theorem dL_law_620 : decode cL_law 620 = .ok (.iconst 2, 1) := by decide +kernel
theorem dL_law_621 : decode cL_law 621 = .ok (.iadd, 1) := by decide +kernel
theorem dL_law_622 : decode cL_law 622 = .ok (.iaload, 1) := by decide +kernel
theorem dL_law_623 : decode cL_law 623 = .ok (.invokevirtual 78, 3) := by decide +kernel
theorem dL_law_626 : decode cL_law 626 = .ok (.if_icmp .eq 249, 3) := by decide +kernel
theorem dL_law_629 : decode cL_law 629 = .ok (.iconst 0, 1) := by decide +kernel
theorem dL_law_630 : decode cL_law 630 = .ok (.ireturn, 1) := by decide +kernel
theorem dL_law_631 : decode cL_law 631 = .ok (.aload_n 1, 1) := by decide +kernel
theorem dL_law_632 : decode cL_law 632 = .ok (.aload_n 0, 1) := by decide +kernel
theorem dL_law_633 : decode cL_law 633 = .ok (.iload_n 3, 1) := by decide +kernel
theorem dL_law_634 : decode cL_law 634 = .ok (.iconst 1, 1) := by decide +kernel
theorem dL_law_635 : decode cL_law 635 = .ok (.iadd, 1) := by decide +kernel
theorem dL_law_636 : decode cL_law 636 = .ok (.iaload, 1) := by decide +kernel
theorem dL_law_637 : decode cL_law 637 = .ok (.aload_n 0, 1) := by decide +kernel
theorem dL_law_638 : decode cL_law 638 = .ok (.iload_n 3, 1) := by decide +kernel
theorem dL_law_639 : decode cL_law 639 = .ok (.iconst 2, 1) := by decide +kernel
theorem dL_law_640 : decode cL_law 640 = .ok (.iadd, 1) := by decide +kernel
theorem dL_law_641 : decode cL_law 641 = .ok (.iaload, 1) := by decide +kernel
theorem dL_law_642 : decode cL_law 642 = .ok (.invokevirtual 79, 3) := by decide +kernel
theorem dL_law_645 : decode cL_law 645 = .ok (.aload_n 2, 1) := by decide +kernel
theorem dL_law_646 : decode cL_law 646 = .ok (.aload_n 0, 1) := by decide +kernel
theorem dL_law_647 : decode cL_law 647 = .ok (.iload_n 3, 1) := by decide +kernel
theorem dL_law_648 : decode cL_law 648 = .ok (.iconst 1, 1) := by decide +kernel
theorem dL_law_649 : decode cL_law 649 = .ok (.iadd, 1) := by decide +kernel
theorem dL_law_650 : decode cL_law 650 = .ok (.iaload, 1) := by decide +kernel
theorem dL_law_651 : decode cL_law 651 = .ok (.aload_n 0, 1) := by decide +kernel
theorem dL_law_652 : decode cL_law 652 = .ok (.iload_n 3, 1) := by decide +kernel
theorem dL_law_653 : decode cL_law 653 = .ok (.iconst 2, 1) := by decide +kernel
theorem dL_law_654 : decode cL_law 654 = .ok (.iadd, 1) := by decide +kernel
theorem dL_law_655 : decode cL_law 655 = .ok (.iaload, 1) := by decide +kernel
theorem dL_law_656 : decode cL_law 656 = .ok (.invokevirtual 82, 3) := by decide +kernel
theorem dL_law_659 : decode cL_law 659 = .ok (.if_icmp .eq 216, 3) := by decide +kernel
theorem dL_law_662 : decode cL_law 662 = .ok (.iconst 0, 1) := by decide +kernel
theorem dL_law_663 : decode cL_law 663 = .ok (.ireturn, 1) := by decide +kernel
theorem dL_law_664 : decode cL_law 664 = .ok (.aload_n 1, 1) := by decide +kernel
theorem dL_law_665 : decode cL_law 665 = .ok (.aload_n 0, 1) := by decide +kernel
theorem dL_law_666 : decode cL_law 666 = .ok (.iload_n 3, 1) := by decide +kernel
theorem dL_law_667 : decode cL_law 667 = .ok (.iconst 1, 1) := by decide +kernel
theorem dL_law_668 : decode cL_law 668 = .ok (.iadd, 1) := by decide +kernel
theorem dL_law_669 : decode cL_law 669 = .ok (.iaload, 1) := by decide +kernel
theorem dL_law_670 : decode cL_law 670 = .ok (.invokevirtual 83, 3) := by decide +kernel
theorem dL_law_673 : decode cL_law 673 = .ok (.aload_n 2, 1) := by decide +kernel
theorem dL_law_674 : decode cL_law 674 = .ok (.aload_n 0, 1) := by decide +kernel
theorem dL_law_675 : decode cL_law 675 = .ok (.iload_n 3, 1) := by decide +kernel
theorem dL_law_676 : decode cL_law 676 = .ok (.iconst 1, 1) := by decide +kernel
theorem dL_law_677 : decode cL_law 677 = .ok (.iadd, 1) := by decide +kernel
theorem dL_law_678 : decode cL_law 678 = .ok (.iaload, 1) := by decide +kernel
theorem dL_law_679 : decode cL_law 679 = .ok (.invokevirtual 86, 3) := by decide +kernel
theorem dL_law_682 : decode cL_law 682 = .ok (.if_icmp .eq 193, 3) := by decide +kernel
theorem dL_law_685 : decode cL_law 685 = .ok (.iconst 0, 1) := by decide +kernel
theorem dL_law_686 : decode cL_law 686 = .ok (.ireturn, 1) := by decide +kernel
theorem dL_law_687 : decode cL_law 687 = .ok (.aload_n 1, 1) := by decide +kernel
theorem dL_law_688 : decode cL_law 688 = .ok (.aload_n 0, 1) := by decide +kernel
theorem dL_law_689 : decode cL_law 689 = .ok (.iload_n 3, 1) := by decide +kernel
theorem dL_law_690 : decode cL_law 690 = .ok (.iconst 1, 1) := by decide +kernel
theorem dL_law_691 : decode cL_law 691 = .ok (.iadd, 1) := by decide +kernel
theorem dL_law_692 : decode cL_law 692 = .ok (.iaload, 1) := by decide +kernel
theorem dL_law_693 : decode cL_law 693 = .ok (.aload_n 0, 1) := by decide +kernel
theorem dL_law_694 : decode cL_law 694 = .ok (.iload_n 3, 1) := by decide +kernel
theorem dL_law_695 : decode cL_law 695 = .ok (.iconst 2, 1) := by decide +kernel
theorem dL_law_696 : decode cL_law 696 = .ok (.iadd, 1) := by decide +kernel
theorem dL_law_697 : decode cL_law 697 = .ok (.iaload, 1) := by decide +kernel
theorem dL_law_698 : decode cL_law 698 = .ok (.invokevirtual 87, 3) := by decide +kernel
theorem dL_law_701 : decode cL_law 701 = .ok (.aload_n 2, 1) := by decide +kernel
theorem dL_law_702 : decode cL_law 702 = .ok (.aload_n 0, 1) := by decide +kernel
theorem dL_law_703 : decode cL_law 703 = .ok (.iload_n 3, 1) := by decide +kernel
theorem dL_law_704 : decode cL_law 704 = .ok (.iconst 1, 1) := by decide +kernel
theorem dL_law_705 : decode cL_law 705 = .ok (.iadd, 1) := by decide +kernel
theorem dL_law_706 : decode cL_law 706 = .ok (.iaload, 1) := by decide +kernel
theorem dL_law_707 : decode cL_law 707 = .ok (.aload_n 0, 1) := by decide +kernel
theorem dL_law_708 : decode cL_law 708 = .ok (.iload_n 3, 1) := by decide +kernel
theorem dL_law_709 : decode cL_law 709 = .ok (.iconst 2, 1) := by decide +kernel
theorem dL_law_710 : decode cL_law 710 = .ok (.iadd, 1) := by decide +kernel
theorem dL_law_711 : decode cL_law 711 = .ok (.iaload, 1) := by decide +kernel
theorem dL_law_712 : decode cL_law 712 = .ok (.invokevirtual 90, 3) := by decide +kernel
theorem dL_law_715 : decode cL_law 715 = .ok (.if_icmp .eq 160, 3) := by decide +kernel
theorem dL_law_718 : decode cL_law 718 = .ok (.iconst 0, 1) := by decide +kernel
theorem dL_law_719 : decode cL_law 719 = .ok (.ireturn, 1) := by decide +kernel
theorem dL_law_720 : decode cL_law 720 = .ok (.aload_n 1, 1) := by decide +kernel
theorem dL_law_721 : decode cL_law 721 = .ok (.aload_n 0, 1) := by decide +kernel
theorem dL_law_722 : decode cL_law 722 = .ok (.iload_n 3, 1) := by decide +kernel
theorem dL_law_723 : decode cL_law 723 = .ok (.iconst 1, 1) := by decide +kernel
theorem dL_law_724 : decode cL_law 724 = .ok (.iadd, 1) := by decide +kernel
theorem dL_law_725 : decode cL_law 725 = .ok (.iaload, 1) := by decide +kernel
theorem dL_law_726 : decode cL_law 726 = .ok (.aload_n 0, 1) := by decide +kernel
theorem dL_law_727 : decode cL_law 727 = .ok (.iload_n 3, 1) := by decide +kernel
theorem dL_law_728 : decode cL_law 728 = .ok (.iconst 2, 1) := by decide +kernel
theorem dL_law_729 : decode cL_law 729 = .ok (.iadd, 1) := by decide +kernel
theorem dL_law_730 : decode cL_law 730 = .ok (.iaload, 1) := by decide +kernel
theorem dL_law_731 : decode cL_law 731 = .ok (.invokevirtual 91, 3) := by decide +kernel
theorem dL_law_734 : decode cL_law 734 = .ok (.aload_n 2, 1) := by decide +kernel
theorem dL_law_735 : decode cL_law 735 = .ok (.aload_n 0, 1) := by decide +kernel
theorem dL_law_736 : decode cL_law 736 = .ok (.iload_n 3, 1) := by decide +kernel
theorem dL_law_737 : decode cL_law 737 = .ok (.iconst 1, 1) := by decide +kernel
theorem dL_law_738 : decode cL_law 738 = .ok (.iadd, 1) := by decide +kernel
theorem dL_law_739 : decode cL_law 739 = .ok (.iaload, 1) := by decide +kernel
theorem dL_law_740 : decode cL_law 740 = .ok (.aload_n 0, 1) := by decide +kernel
theorem dL_law_741 : decode cL_law 741 = .ok (.iload_n 3, 1) := by decide +kernel
theorem dL_law_742 : decode cL_law 742 = .ok (.iconst 2, 1) := by decide +kernel
theorem dL_law_743 : decode cL_law 743 = .ok (.iadd, 1) := by decide +kernel
theorem dL_law_744 : decode cL_law 744 = .ok (.iaload, 1) := by decide +kernel
theorem dL_law_745 : decode cL_law 745 = .ok (.invokevirtual 94, 3) := by decide +kernel
theorem dL_law_748 : decode cL_law 748 = .ok (.if_icmp .eq 127, 3) := by decide +kernel
theorem dL_law_751 : decode cL_law 751 = .ok (.iconst 0, 1) := by decide +kernel
theorem dL_law_752 : decode cL_law 752 = .ok (.ireturn, 1) := by decide +kernel
theorem dL_law_753 : decode cL_law 753 = .ok (.aload_n 1, 1) := by decide +kernel
theorem dL_law_754 : decode cL_law 754 = .ok (.aload_n 0, 1) := by decide +kernel
theorem dL_law_755 : decode cL_law 755 = .ok (.iload_n 3, 1) := by decide +kernel
theorem dL_law_756 : decode cL_law 756 = .ok (.iconst 1, 1) := by decide +kernel
theorem dL_law_757 : decode cL_law 757 = .ok (.iadd, 1) := by decide +kernel
theorem dL_law_758 : decode cL_law 758 = .ok (.iaload, 1) := by decide +kernel
theorem dL_law_759 : decode cL_law 759 = .ok (.aload_n 0, 1) := by decide +kernel
theorem dL_law_760 : decode cL_law 760 = .ok (.iload_n 3, 1) := by decide +kernel
theorem dL_law_761 : decode cL_law 761 = .ok (.iconst 2, 1) := by decide +kernel
theorem dL_law_762 : decode cL_law 762 = .ok (.iadd, 1) := by decide +kernel
theorem dL_law_763 : decode cL_law 763 = .ok (.iaload, 1) := by decide +kernel
theorem dL_law_764 : decode cL_law 764 = .ok (.aload_n 0, 1) := by decide +kernel
theorem dL_law_765 : decode cL_law 765 = .ok (.iload_n 3, 1) := by decide +kernel
theorem dL_law_766 : decode cL_law 766 = .ok (.iconst 3, 1) := by decide +kernel
theorem dL_law_767 : decode cL_law 767 = .ok (.iadd, 1) := by decide +kernel
theorem dL_law_768 : decode cL_law 768 = .ok (.iaload, 1) := by decide +kernel
theorem dL_law_769 : decode cL_law 769 = .ok (.invokevirtual 95, 3) := by decide +kernel
theorem dL_law_772 : decode cL_law 772 = .ok (.aload_n 2, 1) := by decide +kernel
theorem dL_law_773 : decode cL_law 773 = .ok (.aload_n 0, 1) := by decide +kernel
theorem dL_law_774 : decode cL_law 774 = .ok (.iload_n 3, 1) := by decide +kernel
theorem dL_law_775 : decode cL_law 775 = .ok (.iconst 1, 1) := by decide +kernel
theorem dL_law_776 : decode cL_law 776 = .ok (.iadd, 1) := by decide +kernel
theorem dL_law_777 : decode cL_law 777 = .ok (.iaload, 1) := by decide +kernel
theorem dL_law_778 : decode cL_law 778 = .ok (.aload_n 0, 1) := by decide +kernel
theorem dL_law_779 : decode cL_law 779 = .ok (.iload_n 3, 1) := by decide +kernel
theorem dL_law_780 : decode cL_law 780 = .ok (.iconst 2, 1) := by decide +kernel
theorem dL_law_781 : decode cL_law 781 = .ok (.iadd, 1) := by decide +kernel
theorem dL_law_782 : decode cL_law 782 = .ok (.iaload, 1) := by decide +kernel
theorem dL_law_783 : decode cL_law 783 = .ok (.aload_n 0, 1) := by decide +kernel
theorem dL_law_784 : decode cL_law 784 = .ok (.iload_n 3, 1) := by decide +kernel
theorem dL_law_785 : decode cL_law 785 = .ok (.iconst 3, 1) := by decide +kernel
theorem dL_law_786 : decode cL_law 786 = .ok (.iadd, 1) := by decide +kernel
theorem dL_law_787 : decode cL_law 787 = .ok (.iaload, 1) := by decide +kernel
theorem dL_law_788 : decode cL_law 788 = .ok (.invokevirtual 98, 3) := by decide +kernel
theorem dL_law_791 : decode cL_law 791 = .ok (.if_icmp .eq 84, 3) := by decide +kernel
theorem dL_law_794 : decode cL_law 794 = .ok (.iconst 0, 1) := by decide +kernel
theorem dL_law_795 : decode cL_law 795 = .ok (.ireturn, 1) := by decide +kernel
theorem dL_law_796 : decode cL_law 796 = .ok (.aload_n 1, 1) := by decide +kernel
theorem dL_law_797 : decode cL_law 797 = .ok (.aload_n 0, 1) := by decide +kernel
theorem dL_law_798 : decode cL_law 798 = .ok (.iload_n 3, 1) := by decide +kernel
theorem dL_law_799 : decode cL_law 799 = .ok (.iconst 1, 1) := by decide +kernel
theorem dL_law_800 : decode cL_law 800 = .ok (.iadd, 1) := by decide +kernel
theorem dL_law_801 : decode cL_law 801 = .ok (.iaload, 1) := by decide +kernel
theorem dL_law_802 : decode cL_law 802 = .ok (.invokevirtual 99, 3) := by decide +kernel
theorem dL_law_805 : decode cL_law 805 = .ok (.aload_n 2, 1) := by decide +kernel
theorem dL_law_806 : decode cL_law 806 = .ok (.aload_n 0, 1) := by decide +kernel
theorem dL_law_807 : decode cL_law 807 = .ok (.iload_n 3, 1) := by decide +kernel
theorem dL_law_808 : decode cL_law 808 = .ok (.iconst 1, 1) := by decide +kernel
theorem dL_law_809 : decode cL_law 809 = .ok (.iadd, 1) := by decide +kernel
theorem dL_law_810 : decode cL_law 810 = .ok (.iaload, 1) := by decide +kernel
theorem dL_law_811 : decode cL_law 811 = .ok (.invokevirtual 102, 3) := by decide +kernel
theorem dL_law_814 : decode cL_law 814 = .ok (.if_icmp .eq 61, 3) := by decide +kernel
theorem dL_law_817 : decode cL_law 817 = .ok (.iconst 0, 1) := by decide +kernel
theorem dL_law_818 : decode cL_law 818 = .ok (.ireturn, 1) := by decide +kernel
theorem dL_law_819 : decode cL_law 819 = .ok (.aload_n 1, 1) := by decide +kernel
theorem dL_law_820 : decode cL_law 820 = .ok (.aload_n 0, 1) := by decide +kernel
theorem dL_law_821 : decode cL_law 821 = .ok (.iload_n 3, 1) := by decide +kernel
theorem dL_law_822 : decode cL_law 822 = .ok (.iconst 1, 1) := by decide +kernel
theorem dL_law_823 : decode cL_law 823 = .ok (.iadd, 1) := by decide +kernel
theorem dL_law_824 : decode cL_law 824 = .ok (.iaload, 1) := by decide +kernel
theorem dL_law_825 : decode cL_law 825 = .ok (.aload_n 0, 1) := by decide +kernel
theorem dL_law_826 : decode cL_law 826 = .ok (.iload_n 3, 1) := by decide +kernel
theorem dL_law_827 : decode cL_law 827 = .ok (.iconst 2, 1) := by decide +kernel
theorem dL_law_828 : decode cL_law 828 = .ok (.iadd, 1) := by decide +kernel
theorem dL_law_829 : decode cL_law 829 = .ok (.iaload, 1) := by decide +kernel
theorem dL_law_830 : decode cL_law 830 = .ok (.invokevirtual 103, 3) := by decide +kernel
theorem dL_law_833 : decode cL_law 833 = .ok (.aload_n 2, 1) := by decide +kernel
theorem dL_law_834 : decode cL_law 834 = .ok (.aload_n 0, 1) := by decide +kernel
theorem dL_law_835 : decode cL_law 835 = .ok (.iload_n 3, 1) := by decide +kernel
theorem dL_law_836 : decode cL_law 836 = .ok (.iconst 1, 1) := by decide +kernel
theorem dL_law_837 : decode cL_law 837 = .ok (.iadd, 1) := by decide +kernel
theorem dL_law_838 : decode cL_law 838 = .ok (.iaload, 1) := by decide +kernel
theorem dL_law_839 : decode cL_law 839 = .ok (.aload_n 0, 1) := by decide +kernel
theorem dL_law_840 : decode cL_law 840 = .ok (.iload_n 3, 1) := by decide +kernel
theorem dL_law_841 : decode cL_law 841 = .ok (.iconst 2, 1) := by decide +kernel
theorem dL_law_842 : decode cL_law 842 = .ok (.iadd, 1) := by decide +kernel
theorem dL_law_843 : decode cL_law 843 = .ok (.iaload, 1) := by decide +kernel
theorem dL_law_844 : decode cL_law 844 = .ok (.invokevirtual 106, 3) := by decide +kernel
theorem dL_law_847 : decode cL_law 847 = .ok (.if_icmp .eq 28, 3) := by decide +kernel
theorem dL_law_850 : decode cL_law 850 = .ok (.iconst 0, 1) := by decide +kernel
theorem dL_law_851 : decode cL_law 851 = .ok (.ireturn, 1) := by decide +kernel
theorem dL_law_852 : decode cL_law 852 = .ok (.aload_n 1, 1) := by decide +kernel
theorem dL_law_853 : decode cL_law 853 = .ok (.aload_n 0, 1) := by decide +kernel
theorem dL_law_854 : decode cL_law 854 = .ok (.iload_n 3, 1) := by decide +kernel
theorem dL_law_855 : decode cL_law 855 = .ok (.iconst 1, 1) := by decide +kernel
theorem dL_law_856 : decode cL_law 856 = .ok (.iadd, 1) := by decide +kernel
theorem dL_law_857 : decode cL_law 857 = .ok (.iaload, 1) := by decide +kernel
theorem dL_law_858 : decode cL_law 858 = .ok (.invokevirtual 107, 3) := by decide +kernel
theorem dL_law_861 : decode cL_law 861 = .ok (.aload_n 2, 1) := by decide +kernel
theorem dL_law_862 : decode cL_law 862 = .ok (.aload_n 0, 1) := by decide +kernel
theorem dL_law_863 : decode cL_law 863 = .ok (.iload_n 3, 1) := by decide +kernel
theorem dL_law_864 : decode cL_law 864 = .ok (.iconst 1, 1) := by decide +kernel
theorem dL_law_865 : decode cL_law 865 = .ok (.iadd, 1) := by decide +kernel
theorem dL_law_866 : decode cL_law 866 = .ok (.iaload, 1) := by decide +kernel
theorem dL_law_867 : decode cL_law 867 = .ok (.invokevirtual 110, 3) := by decide +kernel
theorem dL_law_870 : decode cL_law 870 = .ok (.if_icmp .eq 5, 3) := by decide +kernel
theorem dL_law_873 : decode cL_law 873 = .ok (.iconst 0, 1) := by decide +kernel
theorem dL_law_874 : decode cL_law 874 = .ok (.ireturn, 1) := by decide +kernel
theorem dL_law_875 : decode cL_law 875 = .ok (.iinc 3 6, 3) := by decide +kernel
theorem dL_law_878 : decode cL_law 878 = .ok (.goto (-860), 3) := by decide +kernel
theorem dL_law_881 : decode cL_law 881 = .ok (.iconst 1, 1) := by decide +kernel
theorem dL_law_882 : decode cL_law 882 = .ok (.ireturn, 1) := by decide +kernel
