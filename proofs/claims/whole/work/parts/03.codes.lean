theorem dX0_init_0 : decode cX0_init 0 = .ok (.aload_n 0, 1) := by decide +kernel
theorem dX0_init_1 : decode cX0_init 1 = .ok (.invokespecial 3, 3) := by decide +kernel
theorem dX0_init_4 : decode cX0_init 4 = .ok (.aload_n 0, 1) := by decide +kernel
theorem dX0_init_5 : decode cX0_init 5 = .ok (.sipush 720, 3) := by decide +kernel
theorem dX0_init_8 : decode cX0_init 8 = .ok (.newarray .int, 2) := by decide +kernel
theorem dX0_init_10 : decode cX0_init 10 = .ok (.putfield 9, 3) := by decide +kernel
theorem dX0_init_13 : decode cX0_init 13 = .ok (.aload_n 0, 1) := by decide +kernel
theorem dX0_init_14 : decode cX0_init 14 = .ok (.bipush 30, 2) := by decide +kernel
theorem dX0_init_16 : decode cX0_init 16 = .ok (.newarray .int, 2) := by decide +kernel
theorem dX0_init_18 : decode cX0_init 18 = .ok (.putfield 15, 3) := by decide +kernel
theorem dX0_init_21 : decode cX0_init 21 = .ok (.return_, 1) := by decide +kernel
theorem dX0_sizeOf_0 : decode cX0_sizeOf 0 = .ok (.aload_n 0, 1) := by decide +kernel
theorem dX0_sizeOf_1 : decode cX0_sizeOf 1 = .ok (.getfield 15, 3) := by decide +kernel
theorem dX0_sizeOf_4 : decode cX0_sizeOf 4 = .ok (.iload_n 1, 1) := by decide +kernel
theorem dX0_sizeOf_5 : decode cX0_sizeOf 5 = .ok (.invokestatic 18, 3) := by decide +kernel
theorem dX0_sizeOf_8 : decode cX0_sizeOf 8 = .ok (.ireturn, 1) := by decide +kernel
theorem dX0_jobAt_0 : decode cX0_jobAt 0 = .ok (.iload_n 2, 1) := by decide +kernel
theorem dX0_jobAt_1 : decode cX0_jobAt 1 = .ok (.ifCond .lt 24, 3) := by decide +kernel
theorem dX0_jobAt_4 : decode cX0_jobAt 4 = .ok (.iload_n 2, 1) := by decide +kernel
theorem dX0_jobAt_5 : decode cX0_jobAt 5 = .ok (.aload_n 0, 1) := by decide +kernel
theorem dX0_jobAt_6 : decode cX0_jobAt 6 = .ok (.iload_n 1, 1) := by decide +kernel
theorem dX0_jobAt_7 : decode cX0_jobAt 7 = .ok (.invokevirtual 22, 3) := by decide +kernel
theorem dX0_jobAt_10 : decode cX0_jobAt 10 = .ok (.if_icmp .ge 15, 3) := by decide +kernel
theorem dX0_jobAt_13 : decode cX0_jobAt 13 = .ok (.aload_n 0, 1) := by decide +kernel
theorem dX0_jobAt_14 : decode cX0_jobAt 14 = .ok (.iload_n 1, 1) := by decide +kernel
theorem dX0_jobAt_15 : decode cX0_jobAt 15 = .ok (.iload_n 2, 1) := by decide +kernel
theorem dX0_jobAt_16 : decode cX0_jobAt 16 = .ok (.invokevirtual 26, 3) := by decide +kernel
theorem dX0_jobAt_19 : decode cX0_jobAt 19 = .ok (.invokestatic 30, 3) := by decide +kernel
theorem dX0_jobAt_22 : decode cX0_jobAt 22 = .ok (.goto 4, 3) := by decide +kernel
theorem dX0_jobAt_25 : decode cX0_jobAt 25 = .ok (.iconst (-1), 1) := by decide +kernel
theorem dX0_jobAt_26 : decode cX0_jobAt 26 = .ok (.ireturn, 1) := by decide +kernel
theorem dX0_timesOf_0 : decode cX0_timesOf 0 = .ok (.iconst 0, 1) := by decide +kernel
theorem dX0_timesOf_1 : decode cX0_timesOf 1 = .ok (.istore_n 3, 1) := by decide +kernel
theorem dX0_timesOf_2 : decode cX0_timesOf 2 = .ok (.iconst 0, 1) := by decide +kernel
theorem dX0_timesOf_3 : decode cX0_timesOf 3 = .ok (.istore 4, 2) := by decide +kernel
theorem dX0_timesOf_5 : decode cX0_timesOf 5 = .ok (.iload 4, 2) := by decide +kernel
theorem dX0_timesOf_7 : decode cX0_timesOf 7 = .ok (.aload_n 0, 1) := by decide +kernel
theorem dX0_timesOf_8 : decode cX0_timesOf 8 = .ok (.iload_n 1, 1) := by decide +kernel
theorem dX0_timesOf_9 : decode cX0_timesOf 9 = .ok (.invokevirtual 22, 3) := by decide +kernel
theorem dX0_timesOf_12 : decode cX0_timesOf 12 = .ok (.if_icmp .ge 23, 3) := by decide +kernel
theorem dX0_timesOf_15 : decode cX0_timesOf 15 = .ok (.aload_n 0, 1) := by decide +kernel
theorem dX0_timesOf_16 : decode cX0_timesOf 16 = .ok (.iload_n 1, 1) := by decide +kernel
theorem dX0_timesOf_17 : decode cX0_timesOf 17 = .ok (.iload 4, 2) := by decide +kernel
theorem dX0_timesOf_19 : decode cX0_timesOf 19 = .ok (.invokevirtual 26, 3) := by decide +kernel
theorem dX0_timesOf_22 : decode cX0_timesOf 22 = .ok (.iload_n 2, 1) := by decide +kernel
theorem dX0_timesOf_23 : decode cX0_timesOf 23 = .ok (.if_icmp .ne 6, 3) := by decide +kernel
theorem dX0_timesOf_26 : decode cX0_timesOf 26 = .ok (.iinc 3 1, 3) := by decide +kernel
theorem dX0_timesOf_29 : decode cX0_timesOf 29 = .ok (.iinc 4 1, 3) := by decide +kernel
theorem dX0_timesOf_32 : decode cX0_timesOf 32 = .ok (.goto (-27), 3) := by decide +kernel
theorem dX0_timesOf_35 : decode cX0_timesOf 35 = .ok (.iload_n 3, 1) := by decide +kernel
theorem dX0_timesOf_36 : decode cX0_timesOf 36 = .ok (.ireturn, 1) := by decide +kernel
theorem dX0_excess_0 : decode cX0_excess 0 = .ok (.iconst 0, 1) := by decide +kernel
theorem dX0_excess_1 : decode cX0_excess 1 = .ok (.istore_n 3, 1) := by decide +kernel
theorem dX0_excess_2 : decode cX0_excess 2 = .ok (.iconst 0, 1) := by decide +kernel
theorem dX0_excess_3 : decode cX0_excess 3 = .ok (.istore 4, 2) := by decide +kernel
theorem dX0_excess_5 : decode cX0_excess 5 = .ok (.iconst 0, 1) := by decide +kernel
theorem dX0_excess_6 : decode cX0_excess 6 = .ok (.istore 5, 2) := by decide +kernel
theorem dX0_excess_8 : decode cX0_excess 8 = .ok (.iload 5, 2) := by decide +kernel
theorem dX0_excess_10 : decode cX0_excess 10 = .ok (.aload_n 0, 1) := by decide +kernel
theorem dX0_excess_11 : decode cX0_excess 11 = .ok (.iload_n 1, 1) := by decide +kernel
theorem dX0_excess_12 : decode cX0_excess 12 = .ok (.invokevirtual 22, 3) := by decide +kernel
theorem dX0_excess_15 : decode cX0_excess 15 = .ok (.if_icmp .ge 77, 3) := by decide +kernel
theorem dX0_excess_18 : decode cX0_excess 18 = .ok (.aload_n 0, 1) := by decide +kernel
theorem dX0_excess_19 : decode cX0_excess 19 = .ok (.iload_n 1, 1) := by decide +kernel
theorem dX0_excess_20 : decode cX0_excess 20 = .ok (.iload 5, 2) := by decide +kernel
theorem dX0_excess_22 : decode cX0_excess 22 = .ok (.invokevirtual 26, 3) := by decide +kernel
theorem dX0_excess_25 : decode cX0_excess 25 = .ok (.istore 6, 2) := by decide +kernel
theorem dX0_excess_27 : decode cX0_excess 27 = .ok (.iload 4, 2) := by decide +kernel
theorem dX0_excess_29 : decode cX0_excess 29 = .ok (.aload_n 0, 1) := by decide +kernel
theorem dX0_excess_30 : decode cX0_excess 30 = .ok (.iload_n 2, 1) := by decide +kernel
theorem dX0_excess_31 : decode cX0_excess 31 = .ok (.invokevirtual 22, 3) := by decide +kernel
theorem dX0_excess_34 : decode cX0_excess 34 = .ok (.if_icmp .ge 21, 3) := by decide +kernel
theorem dX0_excess_37 : decode cX0_excess 37 = .ok (.aload_n 0, 1) := by decide +kernel
theorem dX0_excess_38 : decode cX0_excess 38 = .ok (.iload_n 2, 1) := by decide +kernel
theorem dX0_excess_39 : decode cX0_excess 39 = .ok (.iload 4, 2) := by decide +kernel
theorem dX0_excess_41 : decode cX0_excess 41 = .ok (.invokevirtual 26, 3) := by decide +kernel
theorem dX0_excess_44 : decode cX0_excess 44 = .ok (.iload 6, 2) := by decide +kernel
theorem dX0_excess_46 : decode cX0_excess 46 = .ok (.if_icmp .ge 9, 3) := by decide +kernel
theorem dX0_excess_49 : decode cX0_excess 49 = .ok (.iinc 4 1, 3) := by decide +kernel
theorem dX0_excess_52 : decode cX0_excess 52 = .ok (.goto (-25), 3) := by decide +kernel
theorem dX0_excess_55 : decode cX0_excess 55 = .ok (.iload 4, 2) := by decide +kernel
theorem dX0_excess_57 : decode cX0_excess 57 = .ok (.aload_n 0, 1) := by decide +kernel
theorem dX0_excess_58 : decode cX0_excess 58 = .ok (.iload_n 2, 1) := by decide +kernel
theorem dX0_excess_59 : decode cX0_excess 59 = .ok (.invokevirtual 22, 3) := by decide +kernel
theorem dX0_excess_62 : decode cX0_excess 62 = .ok (.if_icmp .ge 21, 3) := by decide +kernel
theorem dX0_excess_65 : decode cX0_excess 65 = .ok (.aload_n 0, 1) := by decide +kernel
theorem dX0_excess_66 : decode cX0_excess 66 = .ok (.iload_n 2, 1) := by decide +kernel
theorem dX0_excess_67 : decode cX0_excess 67 = .ok (.iload 4, 2) := by decide +kernel
theorem dX0_excess_69 : decode cX0_excess 69 = .ok (.invokevirtual 26, 3) := by decide +kernel
theorem dX0_excess_72 : decode cX0_excess 72 = .ok (.iload 6, 2) := by decide +kernel
theorem dX0_excess_74 : decode cX0_excess 74 = .ok (.if_icmp .ne 9, 3) := by decide +kernel
theorem dX0_excess_77 : decode cX0_excess 77 = .ok (.iinc 4 1, 3) := by decide +kernel
theorem dX0_excess_80 : decode cX0_excess 80 = .ok (.goto 6, 3) := by decide +kernel
theorem dX0_excess_83 : decode cX0_excess 83 = .ok (.iinc 3 1, 3) := by decide +kernel
theorem dX0_excess_86 : decode cX0_excess 86 = .ok (.iinc 5 1, 3) := by decide +kernel
theorem dX0_excess_89 : decode cX0_excess 89 = .ok (.goto (-81), 3) := by decide +kernel
theorem dX0_excess_92 : decode cX0_excess 92 = .ok (.iload_n 3, 1) := by decide +kernel
theorem dX0_excess_93 : decode cX0_excess 93 = .ok (.ireturn, 1) := by decide +kernel
theorem dX0_make_0 : decode cX0_make 0 = .ok (.iload_n 2, 1) := by decide +kernel
theorem dX0_make_1 : decode cX0_make 1 = .ok (.tableswitch 59 1 3 #[27, 38, 49], 27) := by decide +kernel
theorem dX0_make_28 : decode cX0_make 28 = .ok (.aload_n 0, 1) := by decide +kernel
theorem dX0_make_29 : decode cX0_make 29 = .ok (.iload_n 1, 1) := by decide +kernel
theorem dX0_make_30 : decode cX0_make 30 = .ok (.iload_n 3, 1) := by decide +kernel
theorem dX0_make_31 : decode cX0_make 31 = .ok (.iload 5, 2) := by decide +kernel
theorem dX0_make_33 : decode cX0_make 33 = .ok (.invokevirtual 35, 3) := by decide +kernel
theorem dX0_make_36 : decode cX0_make 36 = .ok (.goto 33, 3) := by decide +kernel
theorem dX0_make_39 : decode cX0_make 39 = .ok (.aload_n 0, 1) := by decide +kernel
theorem dX0_make_40 : decode cX0_make 40 = .ok (.iload_n 1, 1) := by decide +kernel
theorem dX0_make_41 : decode cX0_make 41 = .ok (.iload_n 3, 1) := by decide +kernel
theorem dX0_make_42 : decode cX0_make 42 = .ok (.iload 4, 2) := by decide +kernel
theorem dX0_make_44 : decode cX0_make 44 = .ok (.invokevirtual 39, 3) := by decide +kernel
theorem dX0_make_47 : decode cX0_make 47 = .ok (.goto 22, 3) := by decide +kernel
theorem dX0_make_50 : decode cX0_make 50 = .ok (.aload_n 0, 1) := by decide +kernel
theorem dX0_make_51 : decode cX0_make 51 = .ok (.iload_n 1, 1) := by decide +kernel
theorem dX0_make_52 : decode cX0_make 52 = .ok (.iload_n 3, 1) := by decide +kernel
theorem dX0_make_53 : decode cX0_make 53 = .ok (.iconst 1, 1) := by decide +kernel
theorem dX0_make_54 : decode cX0_make 54 = .ok (.invokevirtual 42, 3) := by decide +kernel
theorem dX0_make_57 : decode cX0_make 57 = .ok (.goto 12, 3) := by decide +kernel
theorem dX0_make_60 : decode cX0_make 60 = .ok (.aload_n 0, 1) := by decide +kernel
theorem dX0_make_61 : decode cX0_make 61 = .ok (.getfield 15, 3) := by decide +kernel
theorem dX0_make_64 : decode cX0_make 64 = .ok (.iload_n 1, 1) := by decide +kernel
theorem dX0_make_65 : decode cX0_make 65 = .ok (.iconst 0, 1) := by decide +kernel
theorem dX0_make_66 : decode cX0_make 66 = .ok (.invokestatic 45, 3) := by decide +kernel
theorem dX0_make_69 : decode cX0_make 69 = .ok (.return_, 1) := by decide +kernel
theorem dX0_copy_0 : decode cX0_copy 0 = .ok (.aload_n 0, 1) := by decide +kernel
theorem dX0_copy_1 : decode cX0_copy 1 = .ok (.getfield 15, 3) := by decide +kernel
theorem dX0_copy_4 : decode cX0_copy 4 = .ok (.iload_n 1, 1) := by decide +kernel
theorem dX0_copy_5 : decode cX0_copy 5 = .ok (.iconst 0, 1) := by decide +kernel
theorem dX0_copy_6 : decode cX0_copy 6 = .ok (.invokestatic 45, 3) := by decide +kernel
theorem dX0_copy_9 : decode cX0_copy 9 = .ok (.iload_n 3, 1) := by decide +kernel
theorem dX0_copy_10 : decode cX0_copy 10 = .ok (.istore 4, 2) := by decide +kernel
theorem dX0_copy_12 : decode cX0_copy 12 = .ok (.iload 4, 2) := by decide +kernel
theorem dX0_copy_14 : decode cX0_copy 14 = .ok (.aload_n 0, 1) := by decide +kernel
theorem dX0_copy_15 : decode cX0_copy 15 = .ok (.iload_n 2, 1) := by decide +kernel
theorem dX0_copy_16 : decode cX0_copy 16 = .ok (.invokevirtual 22, 3) := by decide +kernel
theorem dX0_copy_19 : decode cX0_copy 19 = .ok (.if_icmp .ge 21, 3) := by decide +kernel
theorem dX0_copy_22 : decode cX0_copy 22 = .ok (.aload_n 0, 1) := by decide +kernel
theorem dX0_copy_23 : decode cX0_copy 23 = .ok (.iload_n 1, 1) := by decide +kernel
theorem dX0_copy_24 : decode cX0_copy 24 = .ok (.aload_n 0, 1) := by decide +kernel
theorem dX0_copy_25 : decode cX0_copy 25 = .ok (.iload_n 2, 1) := by decide +kernel
theorem dX0_copy_26 : decode cX0_copy 26 = .ok (.iload 4, 2) := by decide +kernel
theorem dX0_copy_28 : decode cX0_copy 28 = .ok (.invokevirtual 26, 3) := by decide +kernel
theorem dX0_copy_31 : decode cX0_copy 31 = .ok (.invokevirtual 49, 3) := by decide +kernel
theorem dX0_copy_34 : decode cX0_copy 34 = .ok (.iinc 4 1, 3) := by decide +kernel
theorem dX0_copy_37 : decode cX0_copy 37 = .ok (.goto (-25), 3) := by decide +kernel
theorem dX0_copy_40 : decode cX0_copy 40 = .ok (.return_, 1) := by decide +kernel
theorem dX0_copyWith_0 : decode cX0_copyWith 0 = .ok (.aload_n 0, 1) := by decide +kernel
theorem dX0_copyWith_1 : decode cX0_copyWith 1 = .ok (.getfield 15, 3) := by decide +kernel
theorem dX0_copyWith_4 : decode cX0_copyWith 4 = .ok (.iload_n 1, 1) := by decide +kernel
theorem dX0_copyWith_5 : decode cX0_copyWith 5 = .ok (.iconst 0, 1) := by decide +kernel
theorem dX0_copyWith_6 : decode cX0_copyWith 6 = .ok (.invokestatic 45, 3) := by decide +kernel
theorem dX0_copyWith_9 : decode cX0_copyWith 9 = .ok (.iconst 0, 1) := by decide +kernel
theorem dX0_copyWith_10 : decode cX0_copyWith 10 = .ok (.istore 4, 2) := by decide +kernel
theorem dX0_copyWith_12 : decode cX0_copyWith 12 = .ok (.iload 4, 2) := by decide +kernel
theorem dX0_copyWith_14 : decode cX0_copyWith 14 = .ok (.aload_n 0, 1) := by decide +kernel
theorem dX0_copyWith_15 : decode cX0_copyWith 15 = .ok (.iload_n 2, 1) := by decide +kernel
theorem dX0_copyWith_16 : decode cX0_copyWith 16 = .ok (.invokevirtual 22, 3) := by decide +kernel
theorem dX0_copyWith_19 : decode cX0_copyWith 19 = .ok (.if_icmp .ge 32, 3) := by decide +kernel
theorem dX0_copyWith_22 : decode cX0_copyWith 22 = .ok (.aload_n 0, 1) := by decide +kernel
theorem dX0_copyWith_23 : decode cX0_copyWith 23 = .ok (.iload_n 2, 1) := by decide +kernel
theorem dX0_copyWith_24 : decode cX0_copyWith 24 = .ok (.iload 4, 2) := by decide +kernel
theorem dX0_copyWith_26 : decode cX0_copyWith 26 = .ok (.invokevirtual 26, 3) := by decide +kernel
theorem dX0_copyWith_29 : decode cX0_copyWith 29 = .ok (.iload_n 3, 1) := by decide +kernel
theorem dX0_copyWith_30 : decode cX0_copyWith 30 = .ok (.if_icmp .ge 21, 3) := by decide +kernel
theorem dX0_copyWith_33 : decode cX0_copyWith 33 = .ok (.aload_n 0, 1) := by decide +kernel
theorem dX0_copyWith_34 : decode cX0_copyWith 34 = .ok (.iload_n 1, 1) := by decide +kernel
theorem dX0_copyWith_35 : decode cX0_copyWith 35 = .ok (.aload_n 0, 1) := by decide +kernel
theorem dX0_copyWith_36 : decode cX0_copyWith 36 = .ok (.iload_n 2, 1) := by decide +kernel
theorem dX0_copyWith_37 : decode cX0_copyWith 37 = .ok (.iload 4, 2) := by decide +kernel
theorem dX0_copyWith_39 : decode cX0_copyWith 39 = .ok (.invokevirtual 26, 3) := by decide +kernel
theorem dX0_copyWith_42 : decode cX0_copyWith 42 = .ok (.invokevirtual 49, 3) := by decide +kernel
theorem dX0_copyWith_45 : decode cX0_copyWith 45 = .ok (.iinc 4 1, 3) := by decide +kernel
theorem dX0_copyWith_48 : decode cX0_copyWith 48 = .ok (.goto (-36), 3) := by decide +kernel
theorem dX0_copyWith_51 : decode cX0_copyWith 51 = .ok (.aload_n 0, 1) := by decide +kernel
theorem dX0_copyWith_52 : decode cX0_copyWith 52 = .ok (.iload_n 1, 1) := by decide +kernel
theorem dX0_copyWith_53 : decode cX0_copyWith 53 = .ok (.iload_n 3, 1) := by decide +kernel
theorem dX0_copyWith_54 : decode cX0_copyWith 54 = .ok (.invokevirtual 49, 3) := by decide +kernel
theorem dX0_copyWith_57 : decode cX0_copyWith 57 = .ok (.iload 4, 2) := by decide +kernel
theorem dX0_copyWith_59 : decode cX0_copyWith 59 = .ok (.aload_n 0, 1) := by decide +kernel
theorem dX0_copyWith_60 : decode cX0_copyWith 60 = .ok (.iload_n 2, 1) := by decide +kernel
theorem dX0_copyWith_61 : decode cX0_copyWith 61 = .ok (.invokevirtual 22, 3) := by decide +kernel
theorem dX0_copyWith_64 : decode cX0_copyWith 64 = .ok (.if_icmp .ge 21, 3) := by decide +kernel
theorem dX0_copyWith_67 : decode cX0_copyWith 67 = .ok (.aload_n 0, 1) := by decide +kernel
theorem dX0_copyWith_68 : decode cX0_copyWith 68 = .ok (.iload_n 1, 1) := by decide +kernel
theorem dX0_copyWith_69 : decode cX0_copyWith 69 = .ok (.aload_n 0, 1) := by decide +kernel
theorem dX0_copyWith_70 : decode cX0_copyWith 70 = .ok (.iload_n 2, 1) := by decide +kernel
theorem dX0_copyWith_71 : decode cX0_copyWith 71 = .ok (.iload 4, 2) := by decide +kernel
theorem dX0_copyWith_73 : decode cX0_copyWith 73 = .ok (.invokevirtual 26, 3) := by decide +kernel
theorem dX0_copyWith_76 : decode cX0_copyWith 76 = .ok (.invokevirtual 49, 3) := by decide +kernel
theorem dX0_copyWith_79 : decode cX0_copyWith 79 = .ok (.iinc 4 1, 3) := by decide +kernel
theorem dX0_copyWith_82 : decode cX0_copyWith 82 = .ok (.goto (-25), 3) := by decide +kernel
theorem dX0_copyWith_85 : decode cX0_copyWith 85 = .ok (.return_, 1) := by decide +kernel
theorem dX0_mix_0 : decode cX0_mix 0 = .ok (.aload_n 0, 1) := by decide +kernel
theorem dX0_mix_1 : decode cX0_mix 1 = .ok (.getfield 15, 3) := by decide +kernel
theorem dX0_mix_4 : decode cX0_mix 4 = .ok (.iload_n 1, 1) := by decide +kernel
theorem dX0_mix_5 : decode cX0_mix 5 = .ok (.iconst 0, 1) := by decide +kernel
theorem dX0_mix_6 : decode cX0_mix 6 = .ok (.invokestatic 45, 3) := by decide +kernel
theorem dX0_mix_9 : decode cX0_mix 9 = .ok (.iconst 0, 1) := by decide +kernel
theorem dX0_mix_10 : decode cX0_mix 10 = .ok (.istore 4, 2) := by decide +kernel
theorem dX0_mix_12 : decode cX0_mix 12 = .ok (.iconst 0, 1) := by decide +kernel
theorem dX0_mix_13 : decode cX0_mix 13 = .ok (.istore 5, 2) := by decide +kernel
theorem dX0_mix_15 : decode cX0_mix 15 = .ok (.iload 5, 2) := by decide +kernel
theorem dX0_mix_17 : decode cX0_mix 17 = .ok (.aload_n 0, 1) := by decide +kernel
theorem dX0_mix_18 : decode cX0_mix 18 = .ok (.iload_n 2, 1) := by decide +kernel
theorem dX0_mix_19 : decode cX0_mix 19 = .ok (.invokevirtual 22, 3) := by decide +kernel
theorem dX0_mix_22 : decode cX0_mix 22 = .ok (.if_icmp .ge 65, 3) := by decide +kernel
theorem dX0_mix_25 : decode cX0_mix 25 = .ok (.aload_n 0, 1) := by decide +kernel
theorem dX0_mix_26 : decode cX0_mix 26 = .ok (.iload_n 2, 1) := by decide +kernel
theorem dX0_mix_27 : decode cX0_mix 27 = .ok (.iload 5, 2) := by decide +kernel
theorem dX0_mix_29 : decode cX0_mix 29 = .ok (.invokevirtual 26, 3) := by decide +kernel
theorem dX0_mix_32 : decode cX0_mix 32 = .ok (.istore 6, 2) := by decide +kernel
theorem dX0_mix_34 : decode cX0_mix 34 = .ok (.iload 4, 2) := by decide +kernel
theorem dX0_mix_36 : decode cX0_mix 36 = .ok (.aload_n 0, 1) := by decide +kernel
theorem dX0_mix_37 : decode cX0_mix 37 = .ok (.iload_n 3, 1) := by decide +kernel
theorem dX0_mix_38 : decode cX0_mix 38 = .ok (.invokevirtual 22, 3) := by decide +kernel
theorem dX0_mix_41 : decode cX0_mix 41 = .ok (.if_icmp .ge 33, 3) := by decide +kernel
theorem dX0_mix_44 : decode cX0_mix 44 = .ok (.aload_n 0, 1) := by decide +kernel
theorem dX0_mix_45 : decode cX0_mix 45 = .ok (.iload_n 3, 1) := by decide +kernel
theorem dX0_mix_46 : decode cX0_mix 46 = .ok (.iload 4, 2) := by decide +kernel
theorem dX0_mix_48 : decode cX0_mix 48 = .ok (.invokevirtual 26, 3) := by decide +kernel
theorem dX0_mix_51 : decode cX0_mix 51 = .ok (.iload 6, 2) := by decide +kernel
theorem dX0_mix_53 : decode cX0_mix 53 = .ok (.if_icmp .ge 21, 3) := by decide +kernel
theorem dX0_mix_56 : decode cX0_mix 56 = .ok (.aload_n 0, 1) := by decide +kernel
theorem dX0_mix_57 : decode cX0_mix 57 = .ok (.iload_n 1, 1) := by decide +kernel
theorem dX0_mix_58 : decode cX0_mix 58 = .ok (.aload_n 0, 1) := by decide +kernel
theorem dX0_mix_59 : decode cX0_mix 59 = .ok (.iload_n 3, 1) := by decide +kernel
theorem dX0_mix_60 : decode cX0_mix 60 = .ok (.iload 4, 2) := by decide +kernel
theorem dX0_mix_62 : decode cX0_mix 62 = .ok (.invokevirtual 26, 3) := by decide +kernel
theorem dX0_mix_65 : decode cX0_mix 65 = .ok (.invokevirtual 49, 3) := by decide +kernel
theorem dX0_mix_68 : decode cX0_mix 68 = .ok (.iinc 4 1, 3) := by decide +kernel
theorem dX0_mix_71 : decode cX0_mix 71 = .ok (.goto (-37), 3) := by decide +kernel
theorem dX0_mix_74 : decode cX0_mix 74 = .ok (.aload_n 0, 1) := by decide +kernel
theorem dX0_mix_75 : decode cX0_mix 75 = .ok (.iload_n 1, 1) := by decide +kernel
theorem dX0_mix_76 : decode cX0_mix 76 = .ok (.iload 6, 2) := by decide +kernel
theorem dX0_mix_78 : decode cX0_mix 78 = .ok (.invokevirtual 49, 3) := by decide +kernel
theorem dX0_mix_81 : decode cX0_mix 81 = .ok (.iinc 5 1, 3) := by decide +kernel
theorem dX0_mix_84 : decode cX0_mix 84 = .ok (.goto (-69), 3) := by decide +kernel
theorem dX0_mix_87 : decode cX0_mix 87 = .ok (.iload 4, 2) := by decide +kernel
theorem dX0_mix_89 : decode cX0_mix 89 = .ok (.aload_n 0, 1) := by decide +kernel
theorem dX0_mix_90 : decode cX0_mix 90 = .ok (.iload_n 3, 1) := by decide +kernel
theorem dX0_mix_91 : decode cX0_mix 91 = .ok (.invokevirtual 22, 3) := by decide +kernel
theorem dX0_mix_94 : decode cX0_mix 94 = .ok (.if_icmp .ge 21, 3) := by decide +kernel
theorem dX0_mix_97 : decode cX0_mix 97 = .ok (.aload_n 0, 1) := by decide +kernel
theorem dX0_mix_98 : decode cX0_mix 98 = .ok (.iload_n 1, 1) := by decide +kernel
theorem dX0_mix_99 : decode cX0_mix 99 = .ok (.aload_n 0, 1) := by decide +kernel
theorem dX0_mix_100 : decode cX0_mix 100 = .ok (.iload_n 3, 1) := by decide +kernel
theorem dX0_mix_101 : decode cX0_mix 101 = .ok (.iload 4, 2) := by decide +kernel
theorem dX0_mix_103 : decode cX0_mix 103 = .ok (.invokevirtual 26, 3) := by decide +kernel
theorem dX0_mix_106 : decode cX0_mix 106 = .ok (.invokevirtual 49, 3) := by decide +kernel
theorem dX0_mix_109 : decode cX0_mix 109 = .ok (.iinc 4 1, 3) := by decide +kernel
theorem dX0_mix_112 : decode cX0_mix 112 = .ok (.goto (-25), 3) := by decide +kernel
theorem dX0_mix_115 : decode cX0_mix 115 = .ok (.return_, 1) := by decide +kernel
theorem dX0_append_0 : decode cX0_append 0 = .ok (.aload_n 0, 1) := by decide +kernel
theorem dX0_append_1 : decode cX0_append 1 = .ok (.iload_n 1, 1) := by decide +kernel
theorem dX0_append_2 : decode cX0_append 2 = .ok (.invokevirtual 22, 3) := by decide +kernel
theorem dX0_append_5 : decode cX0_append 5 = .ok (.istore_n 3, 1) := by decide +kernel
theorem dX0_append_6 : decode cX0_append 6 = .ok (.iload_n 3, 1) := by decide +kernel
theorem dX0_append_7 : decode cX0_append 7 = .ok (.bipush 24, 2) := by decide +kernel
theorem dX0_append_9 : decode cX0_append 9 = .ok (.if_icmp .ge 28, 3) := by decide +kernel
theorem dX0_append_12 : decode cX0_append 12 = .ok (.aload_n 0, 1) := by decide +kernel
theorem dX0_append_13 : decode cX0_append 13 = .ok (.getfield 9, 3) := by decide +kernel
theorem dX0_append_16 : decode cX0_append 16 = .ok (.iload_n 1, 1) := by decide +kernel
theorem dX0_append_17 : decode cX0_append 17 = .ok (.bipush 24, 2) := by decide +kernel
theorem dX0_append_19 : decode cX0_append 19 = .ok (.imul, 1) := by decide +kernel
theorem dX0_append_20 : decode cX0_append 20 = .ok (.iload_n 3, 1) := by decide +kernel
theorem dX0_append_21 : decode cX0_append 21 = .ok (.iadd, 1) := by decide +kernel
theorem dX0_append_22 : decode cX0_append 22 = .ok (.iload_n 2, 1) := by decide +kernel
theorem dX0_append_23 : decode cX0_append 23 = .ok (.invokestatic 45, 3) := by decide +kernel
theorem dX0_append_26 : decode cX0_append 26 = .ok (.aload_n 0, 1) := by decide +kernel
theorem dX0_append_27 : decode cX0_append 27 = .ok (.getfield 15, 3) := by decide +kernel
theorem dX0_append_30 : decode cX0_append 30 = .ok (.iload_n 1, 1) := by decide +kernel
theorem dX0_append_31 : decode cX0_append 31 = .ok (.iload_n 3, 1) := by decide +kernel
theorem dX0_append_32 : decode cX0_append 32 = .ok (.iconst 1, 1) := by decide +kernel
theorem dX0_append_33 : decode cX0_append 33 = .ok (.iadd, 1) := by decide +kernel
theorem dX0_append_34 : decode cX0_append 34 = .ok (.invokestatic 45, 3) := by decide +kernel
theorem dX0_append_37 : decode cX0_append 37 = .ok (.return_, 1) := by decide +kernel
theorem dX0_turnAt_0 : decode cX0_turnAt 0 = .ok (.aload_n 0, 1) := by decide +kernel
theorem dX0_turnAt_1 : decode cX0_turnAt 1 = .ok (.getfield 9, 3) := by decide +kernel
theorem dX0_turnAt_4 : decode cX0_turnAt 4 = .ok (.iload_n 1, 1) := by decide +kernel
theorem dX0_turnAt_5 : decode cX0_turnAt 5 = .ok (.bipush 24, 2) := by decide +kernel
theorem dX0_turnAt_7 : decode cX0_turnAt 7 = .ok (.imul, 1) := by decide +kernel
theorem dX0_turnAt_8 : decode cX0_turnAt 8 = .ok (.iload_n 2, 1) := by decide +kernel
theorem dX0_turnAt_9 : decode cX0_turnAt 9 = .ok (.iadd, 1) := by decide +kernel
theorem dX0_turnAt_10 : decode cX0_turnAt 10 = .ok (.invokestatic 18, 3) := by decide +kernel
theorem dX0_turnAt_13 : decode cX0_turnAt 13 = .ok (.ireturn, 1) := by decide +kernel
theorem dX1_init_0 : decode cX1_init 0 = .ok (.aload_n 0, 1) := by decide +kernel
theorem dX1_init_1 : decode cX1_init 1 = .ok (.invokespecial 5, 3) := by decide +kernel
theorem dX1_init_4 : decode cX1_init 4 = .ok (.aload_n 0, 1) := by decide +kernel
theorem dX1_init_5 : decode cX1_init 5 = .ok (.sipush 864, 3) := by decide +kernel
theorem dX1_init_8 : decode cX1_init 8 = .ok (.newarray .int, 2) := by decide +kernel
theorem dX1_init_10 : decode cX1_init 10 = .ok (.putfield 11, 3) := by decide +kernel
theorem dX1_init_13 : decode cX1_init 13 = .ok (.aload_n 0, 1) := by decide +kernel
theorem dX1_init_14 : decode cX1_init 14 = .ok (.sipush 864, 3) := by decide +kernel
theorem dX1_init_17 : decode cX1_init 17 = .ok (.newarray .int, 2) := by decide +kernel
theorem dX1_init_19 : decode cX1_init 19 = .ok (.putfield 15, 3) := by decide +kernel
theorem dX1_init_22 : decode cX1_init 22 = .ok (.aload_n 0, 1) := by decide +kernel
theorem dX1_init_23 : decode cX1_init 23 = .ok (.sipush 864, 3) := by decide +kernel
theorem dX1_init_26 : decode cX1_init 26 = .ok (.newarray .int, 2) := by decide +kernel
theorem dX1_init_28 : decode cX1_init 28 = .ok (.putfield 18, 3) := by decide +kernel
theorem dX1_init_31 : decode cX1_init 31 = .ok (.aload_n 0, 1) := by decide +kernel
theorem dX1_init_32 : decode cX1_init 32 = .ok (.sipush 864, 3) := by decide +kernel
theorem dX1_init_35 : decode cX1_init 35 = .ok (.newarray .int, 2) := by decide +kernel
theorem dX1_init_37 : decode cX1_init 37 = .ok (.putfield 21, 3) := by decide +kernel
theorem dX1_init_40 : decode cX1_init 40 = .ok (.aload_n 0, 1) := by decide +kernel
theorem dX1_init_41 : decode cX1_init 41 = .ok (.sipush 864, 3) := by decide +kernel
theorem dX1_init_44 : decode cX1_init 44 = .ok (.newarray .int, 2) := by decide +kernel
theorem dX1_init_46 : decode cX1_init 46 = .ok (.putfield 24, 3) := by decide +kernel
theorem dX1_init_49 : decode cX1_init 49 = .ok (.aload_n 0, 1) := by decide +kernel
theorem dX1_init_50 : decode cX1_init 50 = .ok (.sipush 864, 3) := by decide +kernel
theorem dX1_init_53 : decode cX1_init 53 = .ok (.newarray .int, 2) := by decide +kernel
theorem dX1_init_55 : decode cX1_init 55 = .ok (.putfield 27, 3) := by decide +kernel
theorem dX1_init_58 : decode cX1_init 58 = .ok (.aload_n 0, 1) := by decide +kernel
theorem dX1_init_59 : decode cX1_init 59 = .ok (.sipush 864, 3) := by decide +kernel
theorem dX1_init_62 : decode cX1_init 62 = .ok (.newarray .int, 2) := by decide +kernel
theorem dX1_init_64 : decode cX1_init 64 = .ok (.putfield 30, 3) := by decide +kernel
theorem dX1_init_67 : decode cX1_init 67 = .ok (.aload_n 0, 1) := by decide +kernel
theorem dX1_init_68 : decode cX1_init 68 = .ok (.sipush 2592, 3) := by decide +kernel
theorem dX1_init_71 : decode cX1_init 71 = .ok (.newarray .int, 2) := by decide +kernel
theorem dX1_init_73 : decode cX1_init 73 = .ok (.putfield 33, 3) := by decide +kernel
theorem dX1_init_76 : decode cX1_init 76 = .ok (.aload_n 0, 1) := by decide +kernel
theorem dX1_init_77 : decode cX1_init 77 = .ok (.sipush 2592, 3) := by decide +kernel
theorem dX1_init_80 : decode cX1_init 80 = .ok (.newarray .int, 2) := by decide +kernel
theorem dX1_init_82 : decode cX1_init 82 = .ok (.putfield 36, 3) := by decide +kernel
theorem dX1_init_85 : decode cX1_init 85 = .ok (.aload_n 0, 1) := by decide +kernel
theorem dX1_init_86 : decode cX1_init 86 = .ok (.iconst 1, 1) := by decide +kernel
theorem dX1_init_87 : decode cX1_init 87 = .ok (.putfield 39, 3) := by decide +kernel
theorem dX1_init_90 : decode cX1_init 90 = .ok (.aload_n 0, 1) := by decide +kernel
theorem dX1_init_91 : decode cX1_init 91 = .ok (.iconst 1, 1) := by decide +kernel
theorem dX1_init_92 : decode cX1_init 92 = .ok (.putfield 43, 3) := by decide +kernel
theorem dX1_init_95 : decode cX1_init 95 = .ok (.return_, 1) := by decide +kernel
theorem dX1_cells_0 : decode cX1_cells 0 = .ok (.aload_n 0, 1) := by decide +kernel
theorem dX1_cells_1 : decode cX1_cells 1 = .ok (.getfield 39, 3) := by decide +kernel
theorem dX1_cells_4 : decode cX1_cells 4 = .ok (.ireturn, 1) := by decide +kernel
theorem dX1_rows_0 : decode cX1_rows 0 = .ok (.aload_n 0, 1) := by decide +kernel
theorem dX1_rows_1 : decode cX1_rows 1 = .ok (.getfield 43, 3) := by decide +kernel
theorem dX1_rows_4 : decode cX1_rows 4 = .ok (.ireturn, 1) := by decide +kernel
theorem dX1_cut_0 : decode cX1_cut 0 = .ok (.aload_n 0, 1) := by decide +kernel
theorem dX1_cut_1 : decode cX1_cut 1 = .ok (.iload_n 1, 1) := by decide +kernel
theorem dX1_cut_2 : decode cX1_cut 2 = .ok (.putfield 39, 3) := by decide +kernel
theorem dX1_cut_5 : decode cX1_cut 5 = .ok (.aload_n 0, 1) := by decide +kernel
theorem dX1_cut_6 : decode cX1_cut 6 = .ok (.iload_n 2, 1) := by decide +kernel
theorem dX1_cut_7 : decode cX1_cut 7 = .ok (.putfield 43, 3) := by decide +kernel
theorem dX1_cut_10 : decode cX1_cut 10 = .ok (.return_, 1) := by decide +kernel
theorem dX1_row_0 : decode cX1_row 0 = .ok (.aload_n 0, 1) := by decide +kernel
theorem dX1_row_1 : decode cX1_row 1 = .ok (.getfield 43, 3) := by decide +kernel
theorem dX1_row_4 : decode cX1_row 4 = .ok (.iconst 1, 1) := by decide +kernel
theorem dX1_row_5 : decode cX1_row 5 = .ok (.if_icmp .lt 13, 3) := by decide +kernel
theorem dX1_row_8 : decode cX1_row 8 = .ok (.aload_n 0, 1) := by decide +kernel
theorem dX1_row_9 : decode cX1_row 9 = .ok (.getfield 43, 3) := by decide +kernel
theorem dX1_row_12 : decode cX1_row 12 = .ok (.sipush 2592, 3) := by decide +kernel
theorem dX1_row_15 : decode cX1_row 15 = .ok (.if_icmp .lt 5, 3) := by decide +kernel
theorem dX1_row_18 : decode cX1_row 18 = .ok (.iconst 0, 1) := by decide +kernel
theorem dX1_row_19 : decode cX1_row 19 = .ok (.ireturn, 1) := by decide +kernel
theorem dX1_row_20 : decode cX1_row 20 = .ok (.aload_n 0, 1) := by decide +kernel
theorem dX1_row_21 : decode cX1_row 21 = .ok (.getfield 33, 3) := by decide +kernel
theorem dX1_row_24 : decode cX1_row 24 = .ok (.aload_n 0, 1) := by decide +kernel
theorem dX1_row_25 : decode cX1_row 25 = .ok (.getfield 43, 3) := by decide +kernel
theorem dX1_row_28 : decode cX1_row 28 = .ok (.iload_n 1, 1) := by decide +kernel
theorem dX1_row_29 : decode cX1_row 29 = .ok (.iastore, 1) := by decide +kernel
theorem dX1_row_30 : decode cX1_row 30 = .ok (.aload_n 0, 1) := by decide +kernel
theorem dX1_row_31 : decode cX1_row 31 = .ok (.getfield 36, 3) := by decide +kernel
theorem dX1_row_34 : decode cX1_row 34 = .ok (.aload_n 0, 1) := by decide +kernel
theorem dX1_row_35 : decode cX1_row 35 = .ok (.getfield 43, 3) := by decide +kernel
theorem dX1_row_38 : decode cX1_row 38 = .ok (.iload_n 2, 1) := by decide +kernel
theorem dX1_row_39 : decode cX1_row 39 = .ok (.iastore, 1) := by decide +kernel
theorem dX1_row_40 : decode cX1_row 40 = .ok (.aload_n 0, 1) := by decide +kernel
theorem dX1_row_41 : decode cX1_row 41 = .ok (.dup, 1) := by decide +kernel
theorem dX1_row_42 : decode cX1_row 42 = .ok (.getfield 43, 3) := by decide +kernel
theorem dX1_row_45 : decode cX1_row 45 = .ok (.iconst 1, 1) := by decide +kernel
theorem dX1_row_46 : decode cX1_row 46 = .ok (.iadd, 1) := by decide +kernel
theorem dX1_row_47 : decode cX1_row 47 = .ok (.putfield 43, 3) := by decide +kernel
theorem dX1_row_50 : decode cX1_row 50 = .ok (.aload_n 0, 1) := by decide +kernel
theorem dX1_row_51 : decode cX1_row 51 = .ok (.getfield 43, 3) := by decide +kernel
theorem dX1_row_54 : decode cX1_row 54 = .ok (.iconst 1, 1) := by decide +kernel
theorem dX1_row_55 : decode cX1_row 55 = .ok (.isub, 1) := by decide +kernel
theorem dX1_row_56 : decode cX1_row 56 = .ok (.ireturn, 1) := by decide +kernel
theorem dX1_heap_0 : decode cX1_heap 0 = .ok (.aload_n 0, 1) := by decide +kernel
theorem dX1_heap_1 : decode cX1_heap 1 = .ok (.getfield 39, 3) := by decide +kernel
theorem dX1_heap_4 : decode cX1_heap 4 = .ok (.iconst 1, 1) := by decide +kernel
theorem dX1_heap_5 : decode cX1_heap 5 = .ok (.if_icmp .lt 13, 3) := by decide +kernel
theorem dX1_heap_8 : decode cX1_heap 8 = .ok (.aload_n 0, 1) := by decide +kernel
theorem dX1_heap_9 : decode cX1_heap 9 = .ok (.getfield 39, 3) := by decide +kernel
theorem dX1_heap_12 : decode cX1_heap 12 = .ok (.sipush 864, 3) := by decide +kernel
theorem dX1_heap_15 : decode cX1_heap 15 = .ok (.if_icmp .lt 5, 3) := by decide +kernel
theorem dX1_heap_18 : decode cX1_heap 18 = .ok (.iconst 0, 1) := by decide +kernel
theorem dX1_heap_19 : decode cX1_heap 19 = .ok (.ireturn, 1) := by decide +kernel
theorem dX1_heap_20 : decode cX1_heap 20 = .ok (.aload_n 0, 1) := by decide +kernel
theorem dX1_heap_21 : decode cX1_heap 21 = .ok (.getfield 39, 3) := by decide +kernel
theorem dX1_heap_24 : decode cX1_heap 24 = .ok (.istore_n 3, 1) := by decide +kernel
theorem dX1_heap_25 : decode cX1_heap 25 = .ok (.aload_n 0, 1) := by decide +kernel
theorem dX1_heap_26 : decode cX1_heap 26 = .ok (.dup, 1) := by decide +kernel
theorem dX1_heap_27 : decode cX1_heap 27 = .ok (.getfield 39, 3) := by decide +kernel
theorem dX1_heap_30 : decode cX1_heap 30 = .ok (.iconst 1, 1) := by decide +kernel
theorem dX1_heap_31 : decode cX1_heap 31 = .ok (.iadd, 1) := by decide +kernel
theorem dX1_heap_32 : decode cX1_heap 32 = .ok (.putfield 39, 3) := by decide +kernel
theorem dX1_heap_35 : decode cX1_heap 35 = .ok (.aload_n 0, 1) := by decide +kernel
theorem dX1_heap_36 : decode cX1_heap 36 = .ok (.getfield 11, 3) := by decide +kernel
theorem dX1_heap_39 : decode cX1_heap 39 = .ok (.iload_n 3, 1) := by decide +kernel
theorem dX1_heap_40 : decode cX1_heap 40 = .ok (.iload_n 1, 1) := by decide +kernel
theorem dX1_heap_41 : decode cX1_heap 41 = .ok (.iastore, 1) := by decide +kernel
theorem dX1_heap_42 : decode cX1_heap 42 = .ok (.aload_n 0, 1) := by decide +kernel
theorem dX1_heap_43 : decode cX1_heap 43 = .ok (.getfield 15, 3) := by decide +kernel
theorem dX1_heap_46 : decode cX1_heap 46 = .ok (.iload_n 3, 1) := by decide +kernel
theorem dX1_heap_47 : decode cX1_heap 47 = .ok (.iconst 0, 1) := by decide +kernel
theorem dX1_heap_48 : decode cX1_heap 48 = .ok (.iastore, 1) := by decide +kernel
theorem dX1_heap_49 : decode cX1_heap 49 = .ok (.aload_n 0, 1) := by decide +kernel
theorem dX1_heap_50 : decode cX1_heap 50 = .ok (.getfield 18, 3) := by decide +kernel
theorem dX1_heap_53 : decode cX1_heap 53 = .ok (.iload_n 3, 1) := by decide +kernel
theorem dX1_heap_54 : decode cX1_heap 54 = .ok (.iconst 0, 1) := by decide +kernel
theorem dX1_heap_55 : decode cX1_heap 55 = .ok (.iastore, 1) := by decide +kernel
theorem dX1_heap_56 : decode cX1_heap 56 = .ok (.aload_n 0, 1) := by decide +kernel
theorem dX1_heap_57 : decode cX1_heap 57 = .ok (.getfield 21, 3) := by decide +kernel
theorem dX1_heap_60 : decode cX1_heap 60 = .ok (.iload_n 3, 1) := by decide +kernel
theorem dX1_heap_61 : decode cX1_heap 61 = .ok (.iconst 0, 1) := by decide +kernel
theorem dX1_heap_62 : decode cX1_heap 62 = .ok (.iastore, 1) := by decide +kernel
theorem dX1_heap_63 : decode cX1_heap 63 = .ok (.aload_n 0, 1) := by decide +kernel
theorem dX1_heap_64 : decode cX1_heap 64 = .ok (.getfield 24, 3) := by decide +kernel
theorem dX1_heap_67 : decode cX1_heap 67 = .ok (.iload_n 3, 1) := by decide +kernel
theorem dX1_heap_68 : decode cX1_heap 68 = .ok (.iload_n 2, 1) := by decide +kernel
theorem dX1_heap_69 : decode cX1_heap 69 = .ok (.iastore, 1) := by decide +kernel
theorem dX1_heap_70 : decode cX1_heap 70 = .ok (.aload_n 0, 1) := by decide +kernel
theorem dX1_heap_71 : decode cX1_heap 71 = .ok (.getfield 27, 3) := by decide +kernel
theorem dX1_heap_74 : decode cX1_heap 74 = .ok (.iload_n 3, 1) := by decide +kernel
theorem dX1_heap_75 : decode cX1_heap 75 = .ok (.iconst 1, 1) := by decide +kernel
theorem dX1_heap_76 : decode cX1_heap 76 = .ok (.iastore, 1) := by decide +kernel
theorem dX1_heap_77 : decode cX1_heap 77 = .ok (.aload_n 0, 1) := by decide +kernel
theorem dX1_heap_78 : decode cX1_heap 78 = .ok (.getfield 30, 3) := by decide +kernel
theorem dX1_heap_81 : decode cX1_heap 81 = .ok (.iload_n 3, 1) := by decide +kernel
theorem dX1_heap_82 : decode cX1_heap 82 = .ok (.iconst 0, 1) := by decide +kernel
theorem dX1_heap_83 : decode cX1_heap 83 = .ok (.iastore, 1) := by decide +kernel
theorem dX1_heap_84 : decode cX1_heap 84 = .ok (.iload_n 2, 1) := by decide +kernel
theorem dX1_heap_85 : decode cX1_heap 85 = .ok (.istore 4, 2) := by decide +kernel
theorem dX1_heap_87 : decode cX1_heap 87 = .ok (.iconst 0, 1) := by decide +kernel
theorem dX1_heap_88 : decode cX1_heap 88 = .ok (.istore 5, 2) := by decide +kernel
theorem dX1_heap_90 : decode cX1_heap 90 = .ok (.iload 4, 2) := by decide +kernel
theorem dX1_heap_92 : decode cX1_heap 92 = .ok (.ifCond .eq 69, 3) := by decide +kernel
theorem dX1_heap_95 : decode cX1_heap 95 = .ok (.iload 5, 2) := by decide +kernel
theorem dX1_heap_97 : decode cX1_heap 97 = .ok (.sipush 2592, 3) := by decide +kernel
theorem dX1_heap_100 : decode cX1_heap 100 = .ok (.if_icmp .ge 61, 3) := by decide +kernel
theorem dX1_heap_103 : decode cX1_heap 103 = .ok (.aload_n 0, 1) := by decide +kernel
theorem dX1_heap_104 : decode cX1_heap 104 = .ok (.getfield 27, 3) := by decide +kernel
theorem dX1_heap_107 : decode cX1_heap 107 = .ok (.iload_n 3, 1) := by decide +kernel
theorem dX1_heap_108 : decode cX1_heap 108 = .ok (.dup2, 1) := by decide +kernel
theorem dX1_heap_109 : decode cX1_heap 109 = .ok (.iaload, 1) := by decide +kernel
theorem dX1_heap_110 : decode cX1_heap 110 = .ok (.aload_n 0, 1) := by decide +kernel
theorem dX1_heap_111 : decode cX1_heap 111 = .ok (.aload_n 0, 1) := by decide +kernel
theorem dX1_heap_112 : decode cX1_heap 112 = .ok (.iload 4, 2) := by decide +kernel
theorem dX1_heap_114 : decode cX1_heap 114 = .ok (.invokevirtual 46, 3) := by decide +kernel
theorem dX1_heap_117 : decode cX1_heap 117 = .ok (.invokevirtual 50, 3) := by decide +kernel
theorem dX1_heap_120 : decode cX1_heap 120 = .ok (.iadd, 1) := by decide +kernel
theorem dX1_heap_121 : decode cX1_heap 121 = .ok (.iastore, 1) := by decide +kernel
theorem dX1_heap_122 : decode cX1_heap 122 = .ok (.aload_n 0, 1) := by decide +kernel
theorem dX1_heap_123 : decode cX1_heap 123 = .ok (.getfield 30, 3) := by decide +kernel
theorem dX1_heap_126 : decode cX1_heap 126 = .ok (.iload_n 3, 1) := by decide +kernel
theorem dX1_heap_127 : decode cX1_heap 127 = .ok (.aload_n 0, 1) := by decide +kernel
theorem dX1_heap_128 : decode cX1_heap 128 = .ok (.getfield 30, 3) := by decide +kernel
theorem dX1_heap_131 : decode cX1_heap 131 = .ok (.iload_n 3, 1) := by decide +kernel
theorem dX1_heap_132 : decode cX1_heap 132 = .ok (.iaload, 1) := by decide +kernel
theorem dX1_heap_133 : decode cX1_heap 133 = .ok (.aload_n 0, 1) := by decide +kernel
theorem dX1_heap_134 : decode cX1_heap 134 = .ok (.aload_n 0, 1) := by decide +kernel
theorem dX1_heap_135 : decode cX1_heap 135 = .ok (.iload 4, 2) := by decide +kernel
theorem dX1_heap_137 : decode cX1_heap 137 = .ok (.invokevirtual 46, 3) := by decide +kernel
theorem dX1_heap_140 : decode cX1_heap 140 = .ok (.invokevirtual 53, 3) := by decide +kernel
theorem dX1_heap_143 : decode cX1_heap 143 = .ok (.invokestatic 56, 3) := by decide +kernel
theorem dX1_heap_146 : decode cX1_heap 146 = .ok (.iastore, 1) := by decide +kernel
theorem dX1_heap_147 : decode cX1_heap 147 = .ok (.aload_n 0, 1) := by decide +kernel
theorem dX1_heap_148 : decode cX1_heap 148 = .ok (.iload 4, 2) := by decide +kernel
theorem dX1_heap_150 : decode cX1_heap 150 = .ok (.invokevirtual 62, 3) := by decide +kernel
theorem dX1_heap_153 : decode cX1_heap 153 = .ok (.istore 4, 2) := by decide +kernel
theorem dX1_heap_155 : decode cX1_heap 155 = .ok (.iinc 5 1, 3) := by decide +kernel
theorem dX1_heap_158 : decode cX1_heap 158 = .ok (.goto (-68), 3) := by decide +kernel
theorem dX1_heap_161 : decode cX1_heap 161 = .ok (.aload_n 0, 1) := by decide +kernel
theorem dX1_heap_162 : decode cX1_heap 162 = .ok (.getfield 30, 3) := by decide +kernel
theorem dX1_heap_165 : decode cX1_heap 165 = .ok (.iload_n 3, 1) := by decide +kernel
theorem dX1_heap_166 : decode cX1_heap 166 = .ok (.dup2, 1) := by decide +kernel
theorem dX1_heap_167 : decode cX1_heap 167 = .ok (.iaload, 1) := by decide +kernel
theorem dX1_heap_168 : decode cX1_heap 168 = .ok (.iconst 1, 1) := by decide +kernel
theorem dX1_heap_169 : decode cX1_heap 169 = .ok (.iadd, 1) := by decide +kernel
theorem dX1_heap_170 : decode cX1_heap 170 = .ok (.iastore, 1) := by decide +kernel
theorem dX1_heap_171 : decode cX1_heap 171 = .ok (.iload_n 3, 1) := by decide +kernel
theorem dX1_heap_172 : decode cX1_heap 172 = .ok (.ireturn, 1) := by decide +kernel
theorem dX1_tree_0 : decode cX1_tree 0 = .ok (.aload_n 0, 1) := by decide +kernel
theorem dX1_tree_1 : decode cX1_tree 1 = .ok (.getfield 39, 3) := by decide +kernel
theorem dX1_tree_4 : decode cX1_tree 4 = .ok (.iconst 1, 1) := by decide +kernel
theorem dX1_tree_5 : decode cX1_tree 5 = .ok (.if_icmp .lt 24, 3) := by decide +kernel
theorem dX1_tree_8 : decode cX1_tree 8 = .ok (.aload_n 0, 1) := by decide +kernel
theorem dX1_tree_9 : decode cX1_tree 9 = .ok (.getfield 39, 3) := by decide +kernel
theorem dX1_tree_12 : decode cX1_tree 12 = .ok (.sipush 864, 3) := by decide +kernel
theorem dX1_tree_15 : decode cX1_tree 15 = .ok (.if_icmp .ge 14, 3) := by decide +kernel
theorem dX1_tree_18 : decode cX1_tree 18 = .ok (.iload_n 2, 1) := by decide +kernel
theorem dX1_tree_19 : decode cX1_tree 19 = .ok (.ifCond .lt 10, 3) := by decide +kernel
theorem dX1_tree_22 : decode cX1_tree 22 = .ok (.iload_n 2, 1) := by decide +kernel
theorem dX1_tree_23 : decode cX1_tree 23 = .ok (.sipush 864, 3) := by decide +kernel
theorem dX1_tree_26 : decode cX1_tree 26 = .ok (.if_icmp .lt 5, 3) := by decide +kernel
theorem dX1_tree_29 : decode cX1_tree 29 = .ok (.iconst 0, 1) := by decide +kernel
theorem dX1_tree_30 : decode cX1_tree 30 = .ok (.ireturn, 1) := by decide +kernel
theorem dX1_tree_31 : decode cX1_tree 31 = .ok (.aload_n 0, 1) := by decide +kernel
theorem dX1_tree_32 : decode cX1_tree 32 = .ok (.getfield 39, 3) := by decide +kernel
theorem dX1_tree_35 : decode cX1_tree 35 = .ok (.istore 7, 2) := by decide +kernel
theorem dX1_tree_37 : decode cX1_tree 37 = .ok (.aload_n 0, 1) := by decide +kernel
theorem dX1_tree_38 : decode cX1_tree 38 = .ok (.dup, 1) := by decide +kernel
theorem dX1_tree_39 : decode cX1_tree 39 = .ok (.getfield 39, 3) := by decide +kernel
theorem dX1_tree_42 : decode cX1_tree 42 = .ok (.iconst 1, 1) := by decide +kernel
theorem dX1_tree_43 : decode cX1_tree 43 = .ok (.iadd, 1) := by decide +kernel
theorem dX1_tree_44 : decode cX1_tree 44 = .ok (.putfield 39, 3) := by decide +kernel
theorem dX1_tree_47 : decode cX1_tree 47 = .ok (.aload_n 0, 1) := by decide +kernel
theorem dX1_tree_48 : decode cX1_tree 48 = .ok (.getfield 11, 3) := by decide +kernel
theorem dX1_tree_51 : decode cX1_tree 51 = .ok (.iload 7, 2) := by decide +kernel
theorem dX1_tree_53 : decode cX1_tree 53 = .ok (.aload_n 0, 1) := by decide +kernel
theorem dX1_tree_54 : decode cX1_tree 54 = .ok (.getfield 11, 3) := by decide +kernel
theorem dX1_tree_57 : decode cX1_tree 57 = .ok (.iload_n 2, 1) := by decide +kernel
theorem dX1_tree_58 : decode cX1_tree 58 = .ok (.iaload, 1) := by decide +kernel
theorem dX1_tree_59 : decode cX1_tree 59 = .ok (.iastore, 1) := by decide +kernel
theorem dX1_tree_60 : decode cX1_tree 60 = .ok (.aload_n 0, 1) := by decide +kernel
theorem dX1_tree_61 : decode cX1_tree 61 = .ok (.getfield 15, 3) := by decide +kernel
theorem dX1_tree_64 : decode cX1_tree 64 = .ok (.iload 7, 2) := by decide +kernel
theorem dX1_tree_66 : decode cX1_tree 66 = .ok (.iload_n 1, 1) := by decide +kernel
theorem dX1_tree_67 : decode cX1_tree 67 = .ok (.iastore, 1) := by decide +kernel
theorem dX1_tree_68 : decode cX1_tree 68 = .ok (.aload_n 0, 1) := by decide +kernel
theorem dX1_tree_69 : decode cX1_tree 69 = .ok (.getfield 18, 3) := by decide +kernel
theorem dX1_tree_72 : decode cX1_tree 72 = .ok (.iload 7, 2) := by decide +kernel
theorem dX1_tree_74 : decode cX1_tree 74 = .ok (.iload_n 2, 1) := by decide +kernel
theorem dX1_tree_75 : decode cX1_tree 75 = .ok (.iastore, 1) := by decide +kernel
theorem dX1_tree_76 : decode cX1_tree 76 = .ok (.aload_n 0, 1) := by decide +kernel
theorem dX1_tree_77 : decode cX1_tree 77 = .ok (.getfield 21, 3) := by decide +kernel
theorem dX1_tree_80 : decode cX1_tree 80 = .ok (.iload 7, 2) := by decide +kernel
theorem dX1_tree_82 : decode cX1_tree 82 = .ok (.iload_n 3, 1) := by decide +kernel
theorem dX1_tree_83 : decode cX1_tree 83 = .ok (.iastore, 1) := by decide +kernel
theorem dX1_tree_84 : decode cX1_tree 84 = .ok (.aload_n 0, 1) := by decide +kernel
theorem dX1_tree_85 : decode cX1_tree 85 = .ok (.getfield 24, 3) := by decide +kernel
theorem dX1_tree_88 : decode cX1_tree 88 = .ok (.iload 7, 2) := by decide +kernel
theorem dX1_tree_90 : decode cX1_tree 90 = .ok (.iload 4, 2) := by decide +kernel
theorem dX1_tree_92 : decode cX1_tree 92 = .ok (.iastore, 1) := by decide +kernel
theorem dX1_tree_93 : decode cX1_tree 93 = .ok (.aload_n 0, 1) := by decide +kernel
theorem dX1_tree_94 : decode cX1_tree 94 = .ok (.getfield 27, 3) := by decide +kernel
theorem dX1_tree_97 : decode cX1_tree 97 = .ok (.iload 7, 2) := by decide +kernel
theorem dX1_tree_99 : decode cX1_tree 99 = .ok (.iload 5, 2) := by decide +kernel
theorem dX1_tree_101 : decode cX1_tree 101 = .ok (.iastore, 1) := by decide +kernel
theorem dX1_tree_102 : decode cX1_tree 102 = .ok (.aload_n 0, 1) := by decide +kernel
theorem dX1_tree_103 : decode cX1_tree 103 = .ok (.getfield 30, 3) := by decide +kernel
theorem dX1_tree_106 : decode cX1_tree 106 = .ok (.iload 7, 2) := by decide +kernel
theorem dX1_tree_108 : decode cX1_tree 108 = .ok (.iload 6, 2) := by decide +kernel
theorem dX1_tree_110 : decode cX1_tree 110 = .ok (.iastore, 1) := by decide +kernel
theorem dX1_tree_111 : decode cX1_tree 111 = .ok (.iload 7, 2) := by decide +kernel
theorem dX1_tree_113 : decode cX1_tree 113 = .ok (.ireturn, 1) := by decide +kernel
theorem dX1_turnOf_0 : decode cX1_turnOf 0 = .ok (.iload_n 1, 1) := by decide +kernel
theorem dX1_turnOf_1 : decode cX1_turnOf 1 = .ok (.ifCond .lt 19, 3) := by decide +kernel
theorem dX1_turnOf_4 : decode cX1_turnOf 4 = .ok (.iload_n 1, 1) := by decide +kernel
theorem dX1_turnOf_5 : decode cX1_turnOf 5 = .ok (.sipush 864, 3) := by decide +kernel
theorem dX1_turnOf_8 : decode cX1_turnOf 8 = .ok (.if_icmp .ge 12, 3) := by decide +kernel
theorem dX1_turnOf_11 : decode cX1_turnOf 11 = .ok (.aload_n 0, 1) := by decide +kernel
theorem dX1_turnOf_12 : decode cX1_turnOf 12 = .ok (.getfield 11, 3) := by decide +kernel
theorem dX1_turnOf_15 : decode cX1_turnOf 15 = .ok (.iload_n 1, 1) := by decide +kernel
theorem dX1_turnOf_16 : decode cX1_turnOf 16 = .ok (.iaload, 1) := by decide +kernel
theorem dX1_turnOf_17 : decode cX1_turnOf 17 = .ok (.goto 4, 3) := by decide +kernel
theorem dX1_turnOf_20 : decode cX1_turnOf 20 = .ok (.iconst 0, 1) := by decide +kernel
theorem dX1_turnOf_21 : decode cX1_turnOf 21 = .ok (.ireturn, 1) := by decide +kernel
theorem dX1_rankOf_0 : decode cX1_rankOf 0 = .ok (.iload_n 1, 1) := by decide +kernel
theorem dX1_rankOf_1 : decode cX1_rankOf 1 = .ok (.ifCond .lt 19, 3) := by decide +kernel
theorem dX1_rankOf_4 : decode cX1_rankOf 4 = .ok (.iload_n 1, 1) := by decide +kernel
theorem dX1_rankOf_5 : decode cX1_rankOf 5 = .ok (.sipush 864, 3) := by decide +kernel
theorem dX1_rankOf_8 : decode cX1_rankOf 8 = .ok (.if_icmp .ge 12, 3) := by decide +kernel
theorem dX1_rankOf_11 : decode cX1_rankOf 11 = .ok (.aload_n 0, 1) := by decide +kernel
theorem dX1_rankOf_12 : decode cX1_rankOf 12 = .ok (.getfield 15, 3) := by decide +kernel
theorem dX1_rankOf_15 : decode cX1_rankOf 15 = .ok (.iload_n 1, 1) := by decide +kernel
theorem dX1_rankOf_16 : decode cX1_rankOf 16 = .ok (.iaload, 1) := by decide +kernel
theorem dX1_rankOf_17 : decode cX1_rankOf 17 = .ok (.goto 4, 3) := by decide +kernel
theorem dX1_rankOf_20 : decode cX1_rankOf 20 = .ok (.iconst 0, 1) := by decide +kernel
theorem dX1_rankOf_21 : decode cX1_rankOf 21 = .ok (.ireturn, 1) := by decide +kernel
theorem dX1_headOf_0 : decode cX1_headOf 0 = .ok (.iload_n 1, 1) := by decide +kernel
theorem dX1_headOf_1 : decode cX1_headOf 1 = .ok (.ifCond .lt 19, 3) := by decide +kernel
theorem dX1_headOf_4 : decode cX1_headOf 4 = .ok (.iload_n 1, 1) := by decide +kernel
theorem dX1_headOf_5 : decode cX1_headOf 5 = .ok (.sipush 864, 3) := by decide +kernel
theorem dX1_headOf_8 : decode cX1_headOf 8 = .ok (.if_icmp .ge 12, 3) := by decide +kernel
theorem dX1_headOf_11 : decode cX1_headOf 11 = .ok (.aload_n 0, 1) := by decide +kernel
theorem dX1_headOf_12 : decode cX1_headOf 12 = .ok (.getfield 18, 3) := by decide +kernel
theorem dX1_headOf_15 : decode cX1_headOf 15 = .ok (.iload_n 1, 1) := by decide +kernel
theorem dX1_headOf_16 : decode cX1_headOf 16 = .ok (.iaload, 1) := by decide +kernel
theorem dX1_headOf_17 : decode cX1_headOf 17 = .ok (.goto 4, 3) := by decide +kernel
theorem dX1_headOf_20 : decode cX1_headOf 20 = .ok (.iconst 0, 1) := by decide +kernel
theorem dX1_headOf_21 : decode cX1_headOf 21 = .ok (.ireturn, 1) := by decide +kernel
theorem dX1_singlesOf_0 : decode cX1_singlesOf 0 = .ok (.iload_n 1, 1) := by decide +kernel
theorem dX1_singlesOf_1 : decode cX1_singlesOf 1 = .ok (.ifCond .lt 19, 3) := by decide +kernel
theorem dX1_singlesOf_4 : decode cX1_singlesOf 4 = .ok (.iload_n 1, 1) := by decide +kernel
theorem dX1_singlesOf_5 : decode cX1_singlesOf 5 = .ok (.sipush 864, 3) := by decide +kernel
theorem dX1_singlesOf_8 : decode cX1_singlesOf 8 = .ok (.if_icmp .ge 12, 3) := by decide +kernel
theorem dX1_singlesOf_11 : decode cX1_singlesOf 11 = .ok (.aload_n 0, 1) := by decide +kernel
theorem dX1_singlesOf_12 : decode cX1_singlesOf 12 = .ok (.getfield 21, 3) := by decide +kernel
theorem dX1_singlesOf_15 : decode cX1_singlesOf 15 = .ok (.iload_n 1, 1) := by decide +kernel
theorem dX1_singlesOf_16 : decode cX1_singlesOf 16 = .ok (.iaload, 1) := by decide +kernel
theorem dX1_singlesOf_17 : decode cX1_singlesOf 17 = .ok (.goto 4, 3) := by decide +kernel
theorem dX1_singlesOf_20 : decode cX1_singlesOf 20 = .ok (.iconst 0, 1) := by decide +kernel
theorem dX1_singlesOf_21 : decode cX1_singlesOf 21 = .ok (.ireturn, 1) := by decide +kernel
theorem dX1_belowOf_0 : decode cX1_belowOf 0 = .ok (.iload_n 1, 1) := by decide +kernel
theorem dX1_belowOf_1 : decode cX1_belowOf 1 = .ok (.ifCond .lt 19, 3) := by decide +kernel
theorem dX1_belowOf_4 : decode cX1_belowOf 4 = .ok (.iload_n 1, 1) := by decide +kernel
theorem dX1_belowOf_5 : decode cX1_belowOf 5 = .ok (.sipush 864, 3) := by decide +kernel
theorem dX1_belowOf_8 : decode cX1_belowOf 8 = .ok (.if_icmp .ge 12, 3) := by decide +kernel
theorem dX1_belowOf_11 : decode cX1_belowOf 11 = .ok (.aload_n 0, 1) := by decide +kernel
theorem dX1_belowOf_12 : decode cX1_belowOf 12 = .ok (.getfield 24, 3) := by decide +kernel
theorem dX1_belowOf_15 : decode cX1_belowOf 15 = .ok (.iload_n 1, 1) := by decide +kernel
theorem dX1_belowOf_16 : decode cX1_belowOf 16 = .ok (.iaload, 1) := by decide +kernel
theorem dX1_belowOf_17 : decode cX1_belowOf 17 = .ok (.goto 4, 3) := by decide +kernel
theorem dX1_belowOf_20 : decode cX1_belowOf 20 = .ok (.iconst 0, 1) := by decide +kernel
theorem dX1_belowOf_21 : decode cX1_belowOf 21 = .ok (.ireturn, 1) := by decide +kernel
theorem dX1_holdsOf_0 : decode cX1_holdsOf 0 = .ok (.iload_n 1, 1) := by decide +kernel
theorem dX1_holdsOf_1 : decode cX1_holdsOf 1 = .ok (.ifCond .lt 19, 3) := by decide +kernel
theorem dX1_holdsOf_4 : decode cX1_holdsOf 4 = .ok (.iload_n 1, 1) := by decide +kernel
theorem dX1_holdsOf_5 : decode cX1_holdsOf 5 = .ok (.sipush 864, 3) := by decide +kernel
theorem dX1_holdsOf_8 : decode cX1_holdsOf 8 = .ok (.if_icmp .ge 12, 3) := by decide +kernel
theorem dX1_holdsOf_11 : decode cX1_holdsOf 11 = .ok (.aload_n 0, 1) := by decide +kernel
theorem dX1_holdsOf_12 : decode cX1_holdsOf 12 = .ok (.getfield 27, 3) := by decide +kernel
theorem dX1_holdsOf_15 : decode cX1_holdsOf 15 = .ok (.iload_n 1, 1) := by decide +kernel
theorem dX1_holdsOf_16 : decode cX1_holdsOf 16 = .ok (.iaload, 1) := by decide +kernel
theorem dX1_holdsOf_17 : decode cX1_holdsOf 17 = .ok (.goto 4, 3) := by decide +kernel
theorem dX1_holdsOf_20 : decode cX1_holdsOf 20 = .ok (.iconst 0, 1) := by decide +kernel
theorem dX1_holdsOf_21 : decode cX1_holdsOf 21 = .ok (.ireturn, 1) := by decide +kernel
theorem dX1_deepOf_0 : decode cX1_deepOf 0 = .ok (.iload_n 1, 1) := by decide +kernel
theorem dX1_deepOf_1 : decode cX1_deepOf 1 = .ok (.ifCond .lt 19, 3) := by decide +kernel
theorem dX1_deepOf_4 : decode cX1_deepOf 4 = .ok (.iload_n 1, 1) := by decide +kernel
theorem dX1_deepOf_5 : decode cX1_deepOf 5 = .ok (.sipush 864, 3) := by decide +kernel
theorem dX1_deepOf_8 : decode cX1_deepOf 8 = .ok (.if_icmp .ge 12, 3) := by decide +kernel
theorem dX1_deepOf_11 : decode cX1_deepOf 11 = .ok (.aload_n 0, 1) := by decide +kernel
theorem dX1_deepOf_12 : decode cX1_deepOf 12 = .ok (.getfield 30, 3) := by decide +kernel
theorem dX1_deepOf_15 : decode cX1_deepOf 15 = .ok (.iload_n 1, 1) := by decide +kernel
theorem dX1_deepOf_16 : decode cX1_deepOf 16 = .ok (.iaload, 1) := by decide +kernel
theorem dX1_deepOf_17 : decode cX1_deepOf 17 = .ok (.goto 4, 3) := by decide +kernel
theorem dX1_deepOf_20 : decode cX1_deepOf 20 = .ok (.iconst 0, 1) := by decide +kernel
theorem dX1_deepOf_21 : decode cX1_deepOf 21 = .ok (.ireturn, 1) := by decide +kernel
theorem dX1_firstOf_0 : decode cX1_firstOf 0 = .ok (.iload_n 1, 1) := by decide +kernel
theorem dX1_firstOf_1 : decode cX1_firstOf 1 = .ok (.ifCond .lt 19, 3) := by decide +kernel
theorem dX1_firstOf_4 : decode cX1_firstOf 4 = .ok (.iload_n 1, 1) := by decide +kernel
theorem dX1_firstOf_5 : decode cX1_firstOf 5 = .ok (.sipush 2592, 3) := by decide +kernel
theorem dX1_firstOf_8 : decode cX1_firstOf 8 = .ok (.if_icmp .ge 12, 3) := by decide +kernel
theorem dX1_firstOf_11 : decode cX1_firstOf 11 = .ok (.aload_n 0, 1) := by decide +kernel
theorem dX1_firstOf_12 : decode cX1_firstOf 12 = .ok (.getfield 33, 3) := by decide +kernel
theorem dX1_firstOf_15 : decode cX1_firstOf 15 = .ok (.iload_n 1, 1) := by decide +kernel
theorem dX1_firstOf_16 : decode cX1_firstOf 16 = .ok (.iaload, 1) := by decide +kernel
theorem dX1_firstOf_17 : decode cX1_firstOf 17 = .ok (.goto 4, 3) := by decide +kernel
theorem dX1_firstOf_20 : decode cX1_firstOf 20 = .ok (.iconst 0, 1) := by decide +kernel
theorem dX1_firstOf_21 : decode cX1_firstOf 21 = .ok (.ireturn, 1) := by decide +kernel
theorem dX1_restOf_0 : decode cX1_restOf 0 = .ok (.iload_n 1, 1) := by decide +kernel
theorem dX1_restOf_1 : decode cX1_restOf 1 = .ok (.ifCond .lt 19, 3) := by decide +kernel
theorem dX1_restOf_4 : decode cX1_restOf 4 = .ok (.iload_n 1, 1) := by decide +kernel
theorem dX1_restOf_5 : decode cX1_restOf 5 = .ok (.sipush 2592, 3) := by decide +kernel
theorem dX1_restOf_8 : decode cX1_restOf 8 = .ok (.if_icmp .ge 12, 3) := by decide +kernel
theorem dX1_restOf_11 : decode cX1_restOf 11 = .ok (.aload_n 0, 1) := by decide +kernel
theorem dX1_restOf_12 : decode cX1_restOf 12 = .ok (.getfield 36, 3) := by decide +kernel
theorem dX1_restOf_15 : decode cX1_restOf 15 = .ok (.iload_n 1, 1) := by decide +kernel
theorem dX1_restOf_16 : decode cX1_restOf 16 = .ok (.iaload, 1) := by decide +kernel
theorem dX1_restOf_17 : decode cX1_restOf 17 = .ok (.goto 4, 3) := by decide +kernel
theorem dX1_restOf_20 : decode cX1_restOf 20 = .ok (.iconst 0, 1) := by decide +kernel
theorem dX1_restOf_21 : decode cX1_restOf 21 = .ok (.ireturn, 1) := by decide +kernel
theorem dX1_lengthOf_0 : decode cX1_lengthOf 0 = .ok (.iconst 0, 1) := by decide +kernel
theorem dX1_lengthOf_1 : decode cX1_lengthOf 1 = .ok (.istore_n 2, 1) := by decide +kernel
theorem dX1_lengthOf_2 : decode cX1_lengthOf 2 = .ok (.iload_n 1, 1) := by decide +kernel
theorem dX1_lengthOf_3 : decode cX1_lengthOf 3 = .ok (.istore_n 3, 1) := by decide +kernel
theorem dX1_lengthOf_4 : decode cX1_lengthOf 4 = .ok (.iload_n 3, 1) := by decide +kernel
theorem dX1_lengthOf_5 : decode cX1_lengthOf 5 = .ok (.ifCond .eq 22, 3) := by decide +kernel
theorem dX1_lengthOf_8 : decode cX1_lengthOf 8 = .ok (.iload_n 2, 1) := by decide +kernel
theorem dX1_lengthOf_9 : decode cX1_lengthOf 9 = .ok (.sipush 2592, 3) := by decide +kernel
theorem dX1_lengthOf_12 : decode cX1_lengthOf 12 = .ok (.if_icmp .ge 15, 3) := by decide +kernel
theorem dX1_lengthOf_15 : decode cX1_lengthOf 15 = .ok (.iinc 2 1, 3) := by decide +kernel
theorem dX1_lengthOf_18 : decode cX1_lengthOf 18 = .ok (.aload_n 0, 1) := by decide +kernel
theorem dX1_lengthOf_19 : decode cX1_lengthOf 19 = .ok (.iload_n 3, 1) := by decide +kernel
theorem dX1_lengthOf_20 : decode cX1_lengthOf 20 = .ok (.invokevirtual 62, 3) := by decide +kernel
theorem dX1_lengthOf_23 : decode cX1_lengthOf 23 = .ok (.istore_n 3, 1) := by decide +kernel
theorem dX1_lengthOf_24 : decode cX1_lengthOf 24 = .ok (.goto (-20), 3) := by decide +kernel
theorem dX1_lengthOf_27 : decode cX1_lengthOf 27 = .ok (.iload_n 2, 1) := by decide +kernel
theorem dX1_lengthOf_28 : decode cX1_lengthOf 28 = .ok (.ireturn, 1) := by decide +kernel
theorem dX2_init_0 : decode cX2_init 0 = .ok (.aload_n 0, 1) := by decide +kernel
theorem dX2_init_1 : decode cX2_init 1 = .ok (.invokespecial 3, 3) := by decide +kernel
theorem dX2_init_4 : decode cX2_init 4 = .ok (.aload_n 0, 1) := by decide +kernel
theorem dX2_init_5 : decode cX2_init 5 = .ok (.new 9, 3) := by decide +kernel
theorem dX2_init_8 : decode cX2_init 8 = .ok (.dup, 1) := by decide +kernel
theorem dX2_init_9 : decode cX2_init 9 = .ok (.invokespecial 11, 3) := by decide +kernel
theorem dX2_init_12 : decode cX2_init 12 = .ok (.putfield 12, 3) := by decide +kernel
theorem dX2_init_15 : decode cX2_init 15 = .ok (.aload_n 0, 1) := by decide +kernel
theorem dX2_init_16 : decode cX2_init 16 = .ok (.bipush 30, 2) := by decide +kernel
theorem dX2_init_18 : decode cX2_init 18 = .ok (.newarray .int, 2) := by decide +kernel
theorem dX2_init_20 : decode cX2_init 20 = .ok (.putfield 18, 3) := by decide +kernel
theorem dX2_init_23 : decode cX2_init 23 = .ok (.aload_n 0, 1) := by decide +kernel
theorem dX2_init_24 : decode cX2_init 24 = .ok (.bipush 30, 2) := by decide +kernel
theorem dX2_init_26 : decode cX2_init 26 = .ok (.newarray .int, 2) := by decide +kernel
theorem dX2_init_28 : decode cX2_init 28 = .ok (.putfield 22, 3) := by decide +kernel
theorem dX2_init_31 : decode cX2_init 31 = .ok (.aload_n 0, 1) := by decide +kernel
theorem dX2_init_32 : decode cX2_init 32 = .ok (.bipush 30, 2) := by decide +kernel
theorem dX2_init_34 : decode cX2_init 34 = .ok (.newarray .int, 2) := by decide +kernel
theorem dX2_init_36 : decode cX2_init 36 = .ok (.putfield 25, 3) := by decide +kernel
theorem dX2_init_39 : decode cX2_init 39 = .ok (.aload_n 0, 1) := by decide +kernel
theorem dX2_init_40 : decode cX2_init 40 = .ok (.bipush 30, 2) := by decide +kernel
theorem dX2_init_42 : decode cX2_init 42 = .ok (.newarray .int, 2) := by decide +kernel
theorem dX2_init_44 : decode cX2_init 44 = .ok (.putfield 28, 3) := by decide +kernel
theorem dX2_init_47 : decode cX2_init 47 = .ok (.aload_n 0, 1) := by decide +kernel
theorem dX2_init_48 : decode cX2_init 48 = .ok (.bipush 64, 2) := by decide +kernel
theorem dX2_init_50 : decode cX2_init 50 = .ok (.newarray .int, 2) := by decide +kernel
theorem dX2_init_52 : decode cX2_init 52 = .ok (.putfield 31, 3) := by decide +kernel
theorem dX2_init_55 : decode cX2_init 55 = .ok (.aload_n 0, 1) := by decide +kernel
theorem dX2_init_56 : decode cX2_init 56 = .ok (.iload_n 1, 1) := by decide +kernel
theorem dX2_init_57 : decode cX2_init 57 = .ok (.putfield 34, 3) := by decide +kernel
theorem dX2_init_60 : decode cX2_init 60 = .ok (.return_, 1) := by decide +kernel
theorem dX2_cells_0 : decode cX2_cells 0 = .ok (.aload_n 0, 1) := by decide +kernel
theorem dX2_cells_1 : decode cX2_cells 1 = .ok (.getfield 12, 3) := by decide +kernel
theorem dX2_cells_4 : decode cX2_cells 4 = .ok (.areturn, 1) := by decide +kernel
theorem dX2_heapOf_0 : decode cX2_heapOf 0 = .ok (.aload_n 0, 1) := by decide +kernel
theorem dX2_heapOf_1 : decode cX2_heapOf 1 = .ok (.getfield 18, 3) := by decide +kernel
theorem dX2_heapOf_4 : decode cX2_heapOf 4 = .ok (.iload_n 1, 1) := by decide +kernel
theorem dX2_heapOf_5 : decode cX2_heapOf 5 = .ok (.invokestatic 38, 3) := by decide +kernel
theorem dX2_heapOf_8 : decode cX2_heapOf 8 = .ok (.ireturn, 1) := by decide +kernel
theorem dX2_treesOf_0 : decode cX2_treesOf 0 = .ok (.aload_n 0, 1) := by decide +kernel
theorem dX2_treesOf_1 : decode cX2_treesOf 1 = .ok (.getfield 12, 3) := by decide +kernel
theorem dX2_treesOf_4 : decode cX2_treesOf 4 = .ok (.aload_n 0, 1) := by decide +kernel
theorem dX2_treesOf_5 : decode cX2_treesOf 5 = .ok (.getfield 12, 3) := by decide +kernel
theorem dX2_treesOf_8 : decode cX2_treesOf 8 = .ok (.aload_n 0, 1) := by decide +kernel
theorem dX2_treesOf_9 : decode cX2_treesOf 9 = .ok (.iload_n 1, 1) := by decide +kernel
theorem dX2_treesOf_10 : decode cX2_treesOf 10 = .ok (.invokevirtual 42, 3) := by decide +kernel
theorem dX2_treesOf_13 : decode cX2_treesOf 13 = .ok (.invokevirtual 46, 3) := by decide +kernel
theorem dX2_treesOf_16 : decode cX2_treesOf 16 = .ok (.invokevirtual 49, 3) := by decide +kernel
theorem dX2_treesOf_19 : decode cX2_treesOf 19 = .ok (.ireturn, 1) := by decide +kernel
theorem dX2_treeOf_0 : decode cX2_treeOf 0 = .ok (.aload_n 0, 1) := by decide +kernel
theorem dX2_treeOf_1 : decode cX2_treeOf 1 = .ok (.getfield 12, 3) := by decide +kernel
theorem dX2_treeOf_4 : decode cX2_treeOf 4 = .ok (.aload_n 0, 1) := by decide +kernel
theorem dX2_treeOf_5 : decode cX2_treeOf 5 = .ok (.iload_n 1, 1) := by decide +kernel
theorem dX2_treeOf_6 : decode cX2_treeOf 6 = .ok (.invokevirtual 42, 3) := by decide +kernel
theorem dX2_treeOf_9 : decode cX2_treeOf 9 = .ok (.invokevirtual 46, 3) := by decide +kernel
theorem dX2_treeOf_12 : decode cX2_treeOf 12 = .ok (.istore_n 3, 1) := by decide +kernel
theorem dX2_treeOf_13 : decode cX2_treeOf 13 = .ok (.iconst 0, 1) := by decide +kernel
theorem dX2_treeOf_14 : decode cX2_treeOf 14 = .ok (.istore 4, 2) := by decide +kernel
theorem dX2_treeOf_16 : decode cX2_treeOf 16 = .ok (.iload 4, 2) := by decide +kernel
theorem dX2_treeOf_18 : decode cX2_treeOf 18 = .ok (.iload_n 2, 1) := by decide +kernel
theorem dX2_treeOf_19 : decode cX2_treeOf 19 = .ok (.if_icmp .ge 22, 3) := by decide +kernel
theorem dX2_treeOf_22 : decode cX2_treeOf 22 = .ok (.iload_n 3, 1) := by decide +kernel
theorem dX2_treeOf_23 : decode cX2_treeOf 23 = .ok (.ifCond .eq 18, 3) := by decide +kernel
theorem dX2_treeOf_26 : decode cX2_treeOf 26 = .ok (.aload_n 0, 1) := by decide +kernel
theorem dX2_treeOf_27 : decode cX2_treeOf 27 = .ok (.getfield 12, 3) := by decide +kernel
theorem dX2_treeOf_30 : decode cX2_treeOf 30 = .ok (.iload_n 3, 1) := by decide +kernel
theorem dX2_treeOf_31 : decode cX2_treeOf 31 = .ok (.invokevirtual 52, 3) := by decide +kernel
theorem dX2_treeOf_34 : decode cX2_treeOf 34 = .ok (.istore_n 3, 1) := by decide +kernel
theorem dX2_treeOf_35 : decode cX2_treeOf 35 = .ok (.iinc 4 1, 3) := by decide +kernel
theorem dX2_treeOf_38 : decode cX2_treeOf 38 = .ok (.goto (-22), 3) := by decide +kernel
theorem dX2_treeOf_41 : decode cX2_treeOf 41 = .ok (.aload_n 0, 1) := by decide +kernel
theorem dX2_treeOf_42 : decode cX2_treeOf 42 = .ok (.getfield 12, 3) := by decide +kernel
theorem dX2_treeOf_45 : decode cX2_treeOf 45 = .ok (.iload_n 3, 1) := by decide +kernel
theorem dX2_treeOf_46 : decode cX2_treeOf 46 = .ok (.invokevirtual 55, 3) := by decide +kernel
theorem dX2_treeOf_49 : decode cX2_treeOf 49 = .ok (.ireturn, 1) := by decide +kernel
theorem dX2_linksOf_0 : decode cX2_linksOf 0 = .ok (.aload_n 0, 1) := by decide +kernel
theorem dX2_linksOf_1 : decode cX2_linksOf 1 = .ok (.getfield 22, 3) := by decide +kernel
theorem dX2_linksOf_4 : decode cX2_linksOf 4 = .ok (.iload_n 1, 1) := by decide +kernel
theorem dX2_linksOf_5 : decode cX2_linksOf 5 = .ok (.invokestatic 38, 3) := by decide +kernel
theorem dX2_linksOf_8 : decode cX2_linksOf 8 = .ok (.ireturn, 1) := by decide +kernel
theorem dX2_linksOfAll_0 : decode cX2_linksOfAll 0 = .ok (.iconst 0, 1) := by decide +kernel
theorem dX2_linksOfAll_1 : decode cX2_linksOfAll 1 = .ok (.istore_n 1, 1) := by decide +kernel
theorem dX2_linksOfAll_2 : decode cX2_linksOfAll 2 = .ok (.iconst 0, 1) := by decide +kernel
theorem dX2_linksOfAll_3 : decode cX2_linksOfAll 3 = .ok (.istore_n 2, 1) := by decide +kernel
theorem dX2_linksOfAll_4 : decode cX2_linksOfAll 4 = .ok (.iload_n 2, 1) := by decide +kernel
theorem dX2_linksOfAll_5 : decode cX2_linksOfAll 5 = .ok (.aload_n 0, 1) := by decide +kernel
theorem dX2_linksOfAll_6 : decode cX2_linksOfAll 6 = .ok (.getfield 58, 3) := by decide +kernel
theorem dX2_linksOfAll_9 : decode cX2_linksOfAll 9 = .ok (.if_icmp .ge 17, 3) := by decide +kernel
theorem dX2_linksOfAll_12 : decode cX2_linksOfAll 12 = .ok (.iload_n 1, 1) := by decide +kernel
theorem dX2_linksOfAll_13 : decode cX2_linksOfAll 13 = .ok (.aload_n 0, 1) := by decide +kernel
theorem dX2_linksOfAll_14 : decode cX2_linksOfAll 14 = .ok (.iload_n 2, 1) := by decide +kernel
theorem dX2_linksOfAll_15 : decode cX2_linksOfAll 15 = .ok (.invokevirtual 61, 3) := by decide +kernel
theorem dX2_linksOfAll_18 : decode cX2_linksOfAll 18 = .ok (.iadd, 1) := by decide +kernel
theorem dX2_linksOfAll_19 : decode cX2_linksOfAll 19 = .ok (.istore_n 1, 1) := by decide +kernel
theorem dX2_linksOfAll_20 : decode cX2_linksOfAll 20 = .ok (.iinc 2 1, 3) := by decide +kernel
theorem dX2_linksOfAll_23 : decode cX2_linksOfAll 23 = .ok (.goto (-19), 3) := by decide +kernel
theorem dX2_linksOfAll_26 : decode cX2_linksOfAll 26 = .ok (.iload_n 1, 1) := by decide +kernel
theorem dX2_linksOfAll_27 : decode cX2_linksOfAll 27 = .ok (.ireturn, 1) := by decide +kernel
theorem dX2_grow_0 : decode cX2_grow 0 = .ok (.aload_n 0, 1) := by decide +kernel
theorem dX2_grow_1 : decode cX2_grow 1 = .ok (.getfield 25, 3) := by decide +kernel
theorem dX2_grow_4 : decode cX2_grow 4 = .ok (.aload_n 0, 1) := by decide +kernel
theorem dX2_grow_5 : decode cX2_grow 5 = .ok (.getfield 58, 3) := by decide +kernel
theorem dX2_grow_8 : decode cX2_grow 8 = .ok (.aload_n 0, 1) := by decide +kernel
theorem dX2_grow_9 : decode cX2_grow 9 = .ok (.getfield 12, 3) := by decide +kernel
theorem dX2_grow_12 : decode cX2_grow 12 = .ok (.invokevirtual 64, 3) := by decide +kernel
theorem dX2_grow_15 : decode cX2_grow 15 = .ok (.invokestatic 67, 3) := by decide +kernel
theorem dX2_grow_18 : decode cX2_grow 18 = .ok (.aload_n 0, 1) := by decide +kernel
theorem dX2_grow_19 : decode cX2_grow 19 = .ok (.getfield 28, 3) := by decide +kernel
theorem dX2_grow_22 : decode cX2_grow 22 = .ok (.aload_n 0, 1) := by decide +kernel
theorem dX2_grow_23 : decode cX2_grow 23 = .ok (.getfield 58, 3) := by decide +kernel
theorem dX2_grow_26 : decode cX2_grow 26 = .ok (.aload_n 0, 1) := by decide +kernel
theorem dX2_grow_27 : decode cX2_grow 27 = .ok (.getfield 12, 3) := by decide +kernel
theorem dX2_grow_30 : decode cX2_grow 30 = .ok (.invokevirtual 71, 3) := by decide +kernel
theorem dX2_grow_33 : decode cX2_grow 33 = .ok (.invokestatic 67, 3) := by decide +kernel
theorem dX2_grow_36 : decode cX2_grow 36 = .ok (.aload_n 0, 1) := by decide +kernel
theorem dX2_grow_37 : decode cX2_grow 37 = .ok (.iconst 0, 1) := by decide +kernel
theorem dX2_grow_38 : decode cX2_grow 38 = .ok (.putfield 74, 3) := by decide +kernel
theorem dX2_grow_41 : decode cX2_grow 41 = .ok (.iconst 0, 1) := by decide +kernel
theorem dX2_grow_42 : decode cX2_grow 42 = .ok (.istore 5, 2) := by decide +kernel
theorem dX2_grow_44 : decode cX2_grow 44 = .ok (.iload_n 1, 1) := by decide +kernel
theorem dX2_grow_45 : decode cX2_grow 45 = .ok (.iconst 1, 1) := by decide +kernel
theorem dX2_grow_46 : decode cX2_grow 46 = .ok (.if_icmp .ne 27, 3) := by decide +kernel
theorem dX2_grow_49 : decode cX2_grow 49 = .ok (.aload_n 0, 1) := by decide +kernel
theorem dX2_grow_50 : decode cX2_grow 50 = .ok (.aload_n 0, 1) := by decide +kernel
theorem dX2_grow_51 : decode cX2_grow 51 = .ok (.getfield 12, 3) := by decide +kernel
theorem dX2_grow_54 : decode cX2_grow 54 = .ok (.iload 4, 2) := by decide +kernel
theorem dX2_grow_56 : decode cX2_grow 56 = .ok (.iconst 0, 1) := by decide +kernel
theorem dX2_grow_57 : decode cX2_grow 57 = .ok (.invokevirtual 77, 3) := by decide +kernel
theorem dX2_grow_60 : decode cX2_grow 60 = .ok (.aload_n 0, 1) := by decide +kernel
theorem dX2_grow_61 : decode cX2_grow 61 = .ok (.iload_n 2, 1) := by decide +kernel
theorem dX2_grow_62 : decode cX2_grow 62 = .ok (.invokevirtual 42, 3) := by decide +kernel
theorem dX2_grow_65 : decode cX2_grow 65 = .ok (.invokevirtual 81, 3) := by decide +kernel
theorem dX2_grow_68 : decode cX2_grow 68 = .ok (.istore 5, 2) := by decide +kernel
theorem dX2_grow_70 : decode cX2_grow 70 = .ok (.goto 43, 3) := by decide +kernel
theorem dX2_grow_73 : decode cX2_grow 73 = .ok (.iload_n 1, 1) := by decide +kernel
theorem dX2_grow_74 : decode cX2_grow 74 = .ok (.iconst 2, 1) := by decide +kernel
theorem dX2_grow_75 : decode cX2_grow 75 = .ok (.if_icmp .ne 22, 3) := by decide +kernel
theorem dX2_grow_78 : decode cX2_grow 78 = .ok (.aload_n 0, 1) := by decide +kernel
theorem dX2_grow_79 : decode cX2_grow 79 = .ok (.aload_n 0, 1) := by decide +kernel
theorem dX2_grow_80 : decode cX2_grow 80 = .ok (.iload_n 2, 1) := by decide +kernel
theorem dX2_grow_81 : decode cX2_grow 81 = .ok (.invokevirtual 42, 3) := by decide +kernel
theorem dX2_grow_84 : decode cX2_grow 84 = .ok (.aload_n 0, 1) := by decide +kernel
theorem dX2_grow_85 : decode cX2_grow 85 = .ok (.iload_n 3, 1) := by decide +kernel
theorem dX2_grow_86 : decode cX2_grow 86 = .ok (.invokevirtual 42, 3) := by decide +kernel
theorem dX2_grow_89 : decode cX2_grow 89 = .ok (.invokevirtual 81, 3) := by decide +kernel
theorem dX2_grow_92 : decode cX2_grow 92 = .ok (.istore 5, 2) := by decide +kernel
theorem dX2_grow_94 : decode cX2_grow 94 = .ok (.goto 19, 3) := by decide +kernel
theorem dX2_grow_97 : decode cX2_grow 97 = .ok (.iload_n 1, 1) := by decide +kernel
theorem dX2_grow_98 : decode cX2_grow 98 = .ok (.iconst 3, 1) := by decide +kernel
theorem dX2_grow_99 : decode cX2_grow 99 = .ok (.if_icmp .ne 14, 3) := by decide +kernel
theorem dX2_grow_102 : decode cX2_grow 102 = .ok (.aload_n 0, 1) := by decide +kernel
theorem dX2_grow_103 : decode cX2_grow 103 = .ok (.aload_n 0, 1) := by decide +kernel
theorem dX2_grow_104 : decode cX2_grow 104 = .ok (.iload_n 2, 1) := by decide +kernel
theorem dX2_grow_105 : decode cX2_grow 105 = .ok (.invokevirtual 42, 3) := by decide +kernel
theorem dX2_grow_108 : decode cX2_grow 108 = .ok (.invokevirtual 84, 3) := by decide +kernel
theorem dX2_grow_111 : decode cX2_grow 111 = .ok (.istore 5, 2) := by decide +kernel
theorem dX2_grow_113 : decode cX2_grow 113 = .ok (.aload_n 0, 1) := by decide +kernel
theorem dX2_grow_114 : decode cX2_grow 114 = .ok (.getfield 18, 3) := by decide +kernel
theorem dX2_grow_117 : decode cX2_grow 117 = .ok (.aload_n 0, 1) := by decide +kernel
theorem dX2_grow_118 : decode cX2_grow 118 = .ok (.getfield 58, 3) := by decide +kernel
theorem dX2_grow_121 : decode cX2_grow 121 = .ok (.iload 5, 2) := by decide +kernel
theorem dX2_grow_123 : decode cX2_grow 123 = .ok (.invokestatic 67, 3) := by decide +kernel
theorem dX2_grow_126 : decode cX2_grow 126 = .ok (.aload_n 0, 1) := by decide +kernel
theorem dX2_grow_127 : decode cX2_grow 127 = .ok (.getfield 22, 3) := by decide +kernel
theorem dX2_grow_130 : decode cX2_grow 130 = .ok (.aload_n 0, 1) := by decide +kernel
theorem dX2_grow_131 : decode cX2_grow 131 = .ok (.getfield 58, 3) := by decide +kernel
theorem dX2_grow_134 : decode cX2_grow 134 = .ok (.aload_n 0, 1) := by decide +kernel
theorem dX2_grow_135 : decode cX2_grow 135 = .ok (.getfield 74, 3) := by decide +kernel
theorem dX2_grow_138 : decode cX2_grow 138 = .ok (.invokestatic 67, 3) := by decide +kernel
theorem dX2_grow_141 : decode cX2_grow 141 = .ok (.aload_n 0, 1) := by decide +kernel
theorem dX2_grow_142 : decode cX2_grow 142 = .ok (.dup, 1) := by decide +kernel
theorem dX2_grow_143 : decode cX2_grow 143 = .ok (.getfield 58, 3) := by decide +kernel
theorem dX2_grow_146 : decode cX2_grow 146 = .ok (.iconst 1, 1) := by decide +kernel
theorem dX2_grow_147 : decode cX2_grow 147 = .ok (.iadd, 1) := by decide +kernel
theorem dX2_grow_148 : decode cX2_grow 148 = .ok (.putfield 58, 3) := by decide +kernel
theorem dX2_grow_151 : decode cX2_grow 151 = .ok (.return_, 1) := by decide +kernel
theorem dX2_cut_0 : decode cX2_cut 0 = .ok (.iload_n 1, 1) := by decide +kernel
theorem dX2_cut_1 : decode cX2_cut 1 = .ok (.aload_n 0, 1) := by decide +kernel
theorem dX2_cut_2 : decode cX2_cut 2 = .ok (.getfield 58, 3) := by decide +kernel
theorem dX2_cut_5 : decode cX2_cut 5 = .ok (.if_icmp .ge 31, 3) := by decide +kernel
theorem dX2_cut_8 : decode cX2_cut 8 = .ok (.aload_n 0, 1) := by decide +kernel
theorem dX2_cut_9 : decode cX2_cut 9 = .ok (.getfield 12, 3) := by decide +kernel
theorem dX2_cut_12 : decode cX2_cut 12 = .ok (.aload_n 0, 1) := by decide +kernel
theorem dX2_cut_13 : decode cX2_cut 13 = .ok (.getfield 25, 3) := by decide +kernel
theorem dX2_cut_16 : decode cX2_cut 16 = .ok (.iload_n 1, 1) := by decide +kernel
theorem dX2_cut_17 : decode cX2_cut 17 = .ok (.invokestatic 38, 3) := by decide +kernel
theorem dX2_cut_20 : decode cX2_cut 20 = .ok (.aload_n 0, 1) := by decide +kernel
theorem dX2_cut_21 : decode cX2_cut 21 = .ok (.getfield 28, 3) := by decide +kernel
theorem dX2_cut_24 : decode cX2_cut 24 = .ok (.iload_n 1, 1) := by decide +kernel
theorem dX2_cut_25 : decode cX2_cut 25 = .ok (.invokestatic 38, 3) := by decide +kernel
theorem dX2_cut_28 : decode cX2_cut 28 = .ok (.invokevirtual 87, 3) := by decide +kernel
theorem dX2_cut_31 : decode cX2_cut 31 = .ok (.aload_n 0, 1) := by decide +kernel
theorem dX2_cut_32 : decode cX2_cut 32 = .ok (.iload_n 1, 1) := by decide +kernel
theorem dX2_cut_33 : decode cX2_cut 33 = .ok (.putfield 58, 3) := by decide +kernel
theorem dX2_cut_36 : decode cX2_cut 36 = .ok (.return_, 1) := by decide +kernel
theorem dX2_mostToEmpty_0 : decode cX2_mostToEmpty 0 = .ok (.aload_n 0, 1) := by decide +kernel
theorem dX2_mostToEmpty_1 : decode cX2_mostToEmpty 1 = .ok (.iload_n 1, 1) := by decide +kernel
theorem dX2_mostToEmpty_2 : decode cX2_mostToEmpty 2 = .ok (.invokevirtual 91, 3) := by decide +kernel
theorem dX2_mostToEmpty_5 : decode cX2_mostToEmpty 5 = .ok (.pop, 1) := by decide +kernel
theorem dX2_mostToEmpty_6 : decode cX2_mostToEmpty 6 = .ok (.aload_n 0, 1) := by decide +kernel
theorem dX2_mostToEmpty_7 : decode cX2_mostToEmpty 7 = .ok (.getfield 94, 3) := by decide +kernel
theorem dX2_mostToEmpty_10 : decode cX2_mostToEmpty 10 = .ok (.ireturn, 1) := by decide +kernel
theorem dX2_linksToEmpty_0 : decode cX2_linksToEmpty 0 = .ok (.aload_n 0, 1) := by decide +kernel
theorem dX2_linksToEmpty_1 : decode cX2_linksToEmpty 1 = .ok (.getfield 12, 3) := by decide +kernel
theorem dX2_linksToEmpty_4 : decode cX2_linksToEmpty 4 = .ok (.invokevirtual 64, 3) := by decide +kernel
theorem dX2_linksToEmpty_7 : decode cX2_linksToEmpty 7 = .ok (.istore_n 2, 1) := by decide +kernel
theorem dX2_linksToEmpty_8 : decode cX2_linksToEmpty 8 = .ok (.aload_n 0, 1) := by decide +kernel
theorem dX2_linksToEmpty_9 : decode cX2_linksToEmpty 9 = .ok (.getfield 12, 3) := by decide +kernel
theorem dX2_linksToEmpty_12 : decode cX2_linksToEmpty 12 = .ok (.invokevirtual 71, 3) := by decide +kernel
theorem dX2_linksToEmpty_15 : decode cX2_linksToEmpty 15 = .ok (.istore_n 3, 1) := by decide +kernel
theorem dX2_linksToEmpty_16 : decode cX2_linksToEmpty 16 = .ok (.iconst 0, 1) := by decide +kernel
theorem dX2_linksToEmpty_17 : decode cX2_linksToEmpty 17 = .ok (.istore 4, 2) := by decide +kernel
theorem dX2_linksToEmpty_19 : decode cX2_linksToEmpty 19 = .ok (.aload_n 0, 1) := by decide +kernel
theorem dX2_linksToEmpty_20 : decode cX2_linksToEmpty 20 = .ok (.iload_n 1, 1) := by decide +kernel
theorem dX2_linksToEmpty_21 : decode cX2_linksToEmpty 21 = .ok (.invokevirtual 42, 3) := by decide +kernel
theorem dX2_linksToEmpty_24 : decode cX2_linksToEmpty 24 = .ok (.istore 5, 2) := by decide +kernel
theorem dX2_linksToEmpty_26 : decode cX2_linksToEmpty 26 = .ok (.aload_n 0, 1) := by decide +kernel
theorem dX2_linksToEmpty_27 : decode cX2_linksToEmpty 27 = .ok (.iconst 0, 1) := by decide +kernel
theorem dX2_linksToEmpty_28 : decode cX2_linksToEmpty 28 = .ok (.putfield 94, 3) := by decide +kernel
theorem dX2_linksToEmpty_31 : decode cX2_linksToEmpty 31 = .ok (.iconst 0, 1) := by decide +kernel
theorem dX2_linksToEmpty_32 : decode cX2_linksToEmpty 32 = .ok (.istore 6, 2) := by decide +kernel
theorem dX2_linksToEmpty_34 : decode cX2_linksToEmpty 34 = .ok (.iload 6, 2) := by decide +kernel
theorem dX2_linksToEmpty_36 : decode cX2_linksToEmpty 36 = .ok (.bipush 24, 2) := by decide +kernel
theorem dX2_linksToEmpty_38 : decode cX2_linksToEmpty 38 = .ok (.if_icmp .ge 51, 3) := by decide +kernel
theorem dX2_linksToEmpty_41 : decode cX2_linksToEmpty 41 = .ok (.iload 5, 2) := by decide +kernel
theorem dX2_linksToEmpty_43 : decode cX2_linksToEmpty 43 = .ok (.ifCond .eq 46, 3) := by decide +kernel
theorem dX2_linksToEmpty_46 : decode cX2_linksToEmpty 46 = .ok (.aload_n 0, 1) := by decide +kernel
theorem dX2_linksToEmpty_47 : decode cX2_linksToEmpty 47 = .ok (.iconst 0, 1) := by decide +kernel
theorem dX2_linksToEmpty_48 : decode cX2_linksToEmpty 48 = .ok (.putfield 74, 3) := by decide +kernel
theorem dX2_linksToEmpty_51 : decode cX2_linksToEmpty 51 = .ok (.aload_n 0, 1) := by decide +kernel
theorem dX2_linksToEmpty_52 : decode cX2_linksToEmpty 52 = .ok (.iload 5, 2) := by decide +kernel
theorem dX2_linksToEmpty_54 : decode cX2_linksToEmpty 54 = .ok (.invokevirtual 84, 3) := by decide +kernel
theorem dX2_linksToEmpty_57 : decode cX2_linksToEmpty 57 = .ok (.istore 5, 2) := by decide +kernel
theorem dX2_linksToEmpty_59 : decode cX2_linksToEmpty 59 = .ok (.iload 4, 2) := by decide +kernel
theorem dX2_linksToEmpty_61 : decode cX2_linksToEmpty 61 = .ok (.aload_n 0, 1) := by decide +kernel
theorem dX2_linksToEmpty_62 : decode cX2_linksToEmpty 62 = .ok (.getfield 74, 3) := by decide +kernel
theorem dX2_linksToEmpty_65 : decode cX2_linksToEmpty 65 = .ok (.iadd, 1) := by decide +kernel
theorem dX2_linksToEmpty_66 : decode cX2_linksToEmpty 66 = .ok (.istore 4, 2) := by decide +kernel
theorem dX2_linksToEmpty_68 : decode cX2_linksToEmpty 68 = .ok (.aload_n 0, 1) := by decide +kernel
theorem dX2_linksToEmpty_69 : decode cX2_linksToEmpty 69 = .ok (.aload_n 0, 1) := by decide +kernel
theorem dX2_linksToEmpty_70 : decode cX2_linksToEmpty 70 = .ok (.getfield 94, 3) := by decide +kernel
theorem dX2_linksToEmpty_73 : decode cX2_linksToEmpty 73 = .ok (.aload_n 0, 1) := by decide +kernel
theorem dX2_linksToEmpty_74 : decode cX2_linksToEmpty 74 = .ok (.getfield 74, 3) := by decide +kernel
theorem dX2_linksToEmpty_77 : decode cX2_linksToEmpty 77 = .ok (.invokestatic 97, 3) := by decide +kernel
theorem dX2_linksToEmpty_80 : decode cX2_linksToEmpty 80 = .ok (.putfield 94, 3) := by decide +kernel
theorem dX2_linksToEmpty_83 : decode cX2_linksToEmpty 83 = .ok (.iinc 6 1, 3) := by decide +kernel
theorem dX2_linksToEmpty_86 : decode cX2_linksToEmpty 86 = .ok (.goto (-52), 3) := by decide +kernel
theorem dX2_linksToEmpty_89 : decode cX2_linksToEmpty 89 = .ok (.aload_n 0, 1) := by decide +kernel
theorem dX2_linksToEmpty_90 : decode cX2_linksToEmpty 90 = .ok (.getfield 12, 3) := by decide +kernel
theorem dX2_linksToEmpty_93 : decode cX2_linksToEmpty 93 = .ok (.iload_n 2, 1) := by decide +kernel
theorem dX2_linksToEmpty_94 : decode cX2_linksToEmpty 94 = .ok (.iload_n 3, 1) := by decide +kernel
theorem dX2_linksToEmpty_95 : decode cX2_linksToEmpty 95 = .ok (.invokevirtual 87, 3) := by decide +kernel
theorem dX2_linksToEmpty_98 : decode cX2_linksToEmpty 98 = .ok (.iload 4, 2) := by decide +kernel
theorem dX2_linksToEmpty_100 : decode cX2_linksToEmpty 100 = .ok (.ireturn, 1) := by decide +kernel
theorem dX2_join_0 : decode cX2_join 0 = .ok (.iload_n 1, 1) := by decide +kernel
theorem dX2_join_1 : decode cX2_join 1 = .ok (.ifCond .ne 5, 3) := by decide +kernel
theorem dX2_join_4 : decode cX2_join 4 = .ok (.iload_n 2, 1) := by decide +kernel
theorem dX2_join_5 : decode cX2_join 5 = .ok (.ireturn, 1) := by decide +kernel
theorem dX2_join_6 : decode cX2_join 6 = .ok (.iload_n 2, 1) := by decide +kernel
theorem dX2_join_7 : decode cX2_join 7 = .ok (.ifCond .ne 5, 3) := by decide +kernel
theorem dX2_join_10 : decode cX2_join 10 = .ok (.iload_n 1, 1) := by decide +kernel
theorem dX2_join_11 : decode cX2_join 11 = .ok (.ireturn, 1) := by decide +kernel
theorem dX2_join_12 : decode cX2_join 12 = .ok (.aload_n 0, 1) := by decide +kernel
theorem dX2_join_13 : decode cX2_join 13 = .ok (.getfield 12, 3) := by decide +kernel
theorem dX2_join_16 : decode cX2_join 16 = .ok (.iload_n 2, 1) := by decide +kernel
theorem dX2_join_17 : decode cX2_join 17 = .ok (.invokevirtual 102, 3) := by decide +kernel
theorem dX2_join_20 : decode cX2_join 20 = .ok (.aload_n 0, 1) := by decide +kernel
theorem dX2_join_21 : decode cX2_join 21 = .ok (.getfield 12, 3) := by decide +kernel
theorem dX2_join_24 : decode cX2_join 24 = .ok (.iload_n 1, 1) := by decide +kernel
theorem dX2_join_25 : decode cX2_join 25 = .ok (.invokevirtual 102, 3) := by decide +kernel
theorem dX2_join_28 : decode cX2_join 28 = .ok (.if_icmp .ge 32, 3) := by decide +kernel
theorem dX2_join_31 : decode cX2_join 31 = .ok (.aload_n 0, 1) := by decide +kernel
theorem dX2_join_32 : decode cX2_join 32 = .ok (.getfield 12, 3) := by decide +kernel
theorem dX2_join_35 : decode cX2_join 35 = .ok (.aload_n 0, 1) := by decide +kernel
theorem dX2_join_36 : decode cX2_join 36 = .ok (.getfield 12, 3) := by decide +kernel
theorem dX2_join_39 : decode cX2_join 39 = .ok (.iload_n 2, 1) := by decide +kernel
theorem dX2_join_40 : decode cX2_join 40 = .ok (.invokevirtual 102, 3) := by decide +kernel
theorem dX2_join_43 : decode cX2_join 43 = .ok (.aload_n 0, 1) := by decide +kernel
theorem dX2_join_44 : decode cX2_join 44 = .ok (.iload_n 1, 1) := by decide +kernel
theorem dX2_join_45 : decode cX2_join 45 = .ok (.aload_n 0, 1) := by decide +kernel
theorem dX2_join_46 : decode cX2_join 46 = .ok (.getfield 12, 3) := by decide +kernel
theorem dX2_join_49 : decode cX2_join 49 = .ok (.iload_n 2, 1) := by decide +kernel
theorem dX2_join_50 : decode cX2_join 50 = .ok (.invokevirtual 46, 3) := by decide +kernel
theorem dX2_join_53 : decode cX2_join 53 = .ok (.invokevirtual 105, 3) := by decide +kernel
theorem dX2_join_56 : decode cX2_join 56 = .ok (.invokevirtual 77, 3) := by decide +kernel
theorem dX2_join_59 : decode cX2_join 59 = .ok (.ireturn, 1) := by decide +kernel
theorem dX2_join_60 : decode cX2_join 60 = .ok (.aload_n 0, 1) := by decide +kernel
theorem dX2_join_61 : decode cX2_join 61 = .ok (.getfield 12, 3) := by decide +kernel
theorem dX2_join_64 : decode cX2_join 64 = .ok (.aload_n 0, 1) := by decide +kernel
theorem dX2_join_65 : decode cX2_join 65 = .ok (.getfield 12, 3) := by decide +kernel
theorem dX2_join_68 : decode cX2_join 68 = .ok (.iload_n 1, 1) := by decide +kernel
theorem dX2_join_69 : decode cX2_join 69 = .ok (.invokevirtual 102, 3) := by decide +kernel
theorem dX2_join_72 : decode cX2_join 72 = .ok (.aload_n 0, 1) := by decide +kernel
theorem dX2_join_73 : decode cX2_join 73 = .ok (.iload_n 2, 1) := by decide +kernel
theorem dX2_join_74 : decode cX2_join 74 = .ok (.aload_n 0, 1) := by decide +kernel
theorem dX2_join_75 : decode cX2_join 75 = .ok (.getfield 12, 3) := by decide +kernel
theorem dX2_join_78 : decode cX2_join 78 = .ok (.iload_n 1, 1) := by decide +kernel
theorem dX2_join_79 : decode cX2_join 79 = .ok (.invokevirtual 46, 3) := by decide +kernel
theorem dX2_join_82 : decode cX2_join 82 = .ok (.invokevirtual 105, 3) := by decide +kernel
theorem dX2_join_85 : decode cX2_join 85 = .ok (.invokevirtual 77, 3) := by decide +kernel
theorem dX2_join_88 : decode cX2_join 88 = .ok (.ireturn, 1) := by decide +kernel
theorem dX2_take_0 : decode cX2_take 0 = .ok (.aload_n 0, 1) := by decide +kernel
theorem dX2_take_1 : decode cX2_take 1 = .ok (.getfield 12, 3) := by decide +kernel
theorem dX2_take_4 : decode cX2_take 4 = .ok (.iload_n 1, 1) := by decide +kernel
theorem dX2_take_5 : decode cX2_take 5 = .ok (.invokevirtual 46, 3) := by decide +kernel
theorem dX2_take_8 : decode cX2_take 8 = .ok (.istore_n 2, 1) := by decide +kernel
theorem dX2_take_9 : decode cX2_take 9 = .ok (.iload_n 2, 1) := by decide +kernel
theorem dX2_take_10 : decode cX2_take 10 = .ok (.ifCond .ne 5, 3) := by decide +kernel
theorem dX2_take_13 : decode cX2_take 13 = .ok (.iconst 0, 1) := by decide +kernel
theorem dX2_take_14 : decode cX2_take 14 = .ok (.ireturn, 1) := by decide +kernel
theorem dX2_take_15 : decode cX2_take 15 = .ok (.aload_n 0, 1) := by decide +kernel
theorem dX2_take_16 : decode cX2_take 16 = .ok (.iload_n 2, 1) := by decide +kernel
theorem dX2_take_17 : decode cX2_take 17 = .ok (.invokevirtual 108, 3) := by decide +kernel
theorem dX2_take_20 : decode cX2_take 20 = .ok (.istore_n 3, 1) := by decide +kernel
theorem dX2_take_21 : decode cX2_take 21 = .ok (.aload_n 0, 1) := by decide +kernel
theorem dX2_take_22 : decode cX2_take 22 = .ok (.aload_n 0, 1) := by decide +kernel
theorem dX2_take_23 : decode cX2_take 23 = .ok (.aload_n 0, 1) := by decide +kernel
theorem dX2_take_24 : decode cX2_take 24 = .ok (.getfield 12, 3) := by decide +kernel
theorem dX2_take_27 : decode cX2_take 27 = .ok (.iload_n 3, 1) := by decide +kernel
theorem dX2_take_28 : decode cX2_take 28 = .ok (.invokevirtual 46, 3) := by decide +kernel
theorem dX2_take_31 : decode cX2_take 31 = .ok (.invokevirtual 111, 3) := by decide +kernel
theorem dX2_take_34 : decode cX2_take 34 = .ok (.aload_n 0, 1) := by decide +kernel
theorem dX2_take_35 : decode cX2_take 35 = .ok (.iload_n 2, 1) := by decide +kernel
theorem dX2_take_36 : decode cX2_take 36 = .ok (.iload_n 3, 1) := by decide +kernel
theorem dX2_take_37 : decode cX2_take 37 = .ok (.invokevirtual 114, 3) := by decide +kernel
theorem dX2_take_40 : decode cX2_take 40 = .ok (.invokevirtual 117, 3) := by decide +kernel
theorem dX2_take_43 : decode cX2_take 43 = .ok (.istore 4, 2) := by decide +kernel
theorem dX2_take_45 : decode cX2_take 45 = .ok (.aload_n 0, 1) := by decide +kernel
theorem dX2_take_46 : decode cX2_take 46 = .ok (.getfield 12, 3) := by decide +kernel
theorem dX2_take_49 : decode cX2_take 49 = .ok (.iload_n 3, 1) := by decide +kernel
theorem dX2_take_50 : decode cX2_take 50 = .ok (.invokevirtual 120, 3) := by decide +kernel
theorem dX2_take_53 : decode cX2_take 53 = .ok (.istore 5, 2) := by decide +kernel
theorem dX2_take_55 : decode cX2_take 55 = .ok (.iconst 0, 1) := by decide +kernel
theorem dX2_take_56 : decode cX2_take 56 = .ok (.istore 6, 2) := by decide +kernel
theorem dX2_take_58 : decode cX2_take 58 = .ok (.iload 6, 2) := by decide +kernel
theorem dX2_take_60 : decode cX2_take 60 = .ok (.bipush 64, 2) := by decide +kernel
theorem dX2_take_62 : decode cX2_take 62 = .ok (.if_icmp .ge 42, 3) := by decide +kernel
theorem dX2_take_65 : decode cX2_take 65 = .ok (.iload 5, 2) := by decide +kernel
theorem dX2_take_67 : decode cX2_take 67 = .ok (.ifCond .eq 37, 3) := by decide +kernel
theorem dX2_take_70 : decode cX2_take 70 = .ok (.aload_n 0, 1) := by decide +kernel
theorem dX2_take_71 : decode cX2_take 71 = .ok (.aload_n 0, 1) := by decide +kernel
theorem dX2_take_72 : decode cX2_take 72 = .ok (.getfield 12, 3) := by decide +kernel
theorem dX2_take_75 : decode cX2_take 75 = .ok (.iload 5, 2) := by decide +kernel
theorem dX2_take_77 : decode cX2_take 77 = .ok (.invokevirtual 55, 3) := by decide +kernel
theorem dX2_take_80 : decode cX2_take 80 = .ok (.iload 4, 2) := by decide +kernel
theorem dX2_take_82 : decode cX2_take 82 = .ok (.invokevirtual 105, 3) := by decide +kernel
theorem dX2_take_85 : decode cX2_take 85 = .ok (.istore 4, 2) := by decide +kernel
theorem dX2_take_87 : decode cX2_take 87 = .ok (.aload_n 0, 1) := by decide +kernel
theorem dX2_take_88 : decode cX2_take 88 = .ok (.getfield 12, 3) := by decide +kernel
theorem dX2_take_91 : decode cX2_take 91 = .ok (.iload 5, 2) := by decide +kernel
theorem dX2_take_93 : decode cX2_take 93 = .ok (.invokevirtual 52, 3) := by decide +kernel
theorem dX2_take_96 : decode cX2_take 96 = .ok (.istore 5, 2) := by decide +kernel
theorem dX2_take_98 : decode cX2_take 98 = .ok (.iinc 6 1, 3) := by decide +kernel
theorem dX2_take_101 : decode cX2_take 101 = .ok (.goto (-43), 3) := by decide +kernel
theorem dX2_take_104 : decode cX2_take 104 = .ok (.aload_n 0, 1) := by decide +kernel
theorem dX2_take_105 : decode cX2_take 105 = .ok (.getfield 12, 3) := by decide +kernel
theorem dX2_take_108 : decode cX2_take 108 = .ok (.iload_n 3, 1) := by decide +kernel
theorem dX2_take_109 : decode cX2_take 109 = .ok (.invokevirtual 123, 3) := by decide +kernel
theorem dX2_take_112 : decode cX2_take 112 = .ok (.istore 6, 2) := by decide +kernel
theorem dX2_take_114 : decode cX2_take 114 = .ok (.aload_n 0, 1) := by decide +kernel
theorem dX2_take_115 : decode cX2_take 115 = .ok (.getfield 12, 3) := by decide +kernel
theorem dX2_take_118 : decode cX2_take 118 = .ok (.aload_n 0, 1) := by decide +kernel
theorem dX2_take_119 : decode cX2_take 119 = .ok (.getfield 12, 3) := by decide +kernel
theorem dX2_take_122 : decode cX2_take 122 = .ok (.iload 6, 2) := by decide +kernel
theorem dX2_take_124 : decode cX2_take 124 = .ok (.invokevirtual 102, 3) := by decide +kernel
theorem dX2_take_127 : decode cX2_take 127 = .ok (.aload_n 0, 1) := by decide +kernel
theorem dX2_take_128 : decode cX2_take 128 = .ok (.aload_n 0, 1) := by decide +kernel
theorem dX2_take_129 : decode cX2_take 129 = .ok (.getfield 12, 3) := by decide +kernel
theorem dX2_take_132 : decode cX2_take 132 = .ok (.iload 6, 2) := by decide +kernel
theorem dX2_take_134 : decode cX2_take 134 = .ok (.invokevirtual 46, 3) := by decide +kernel
theorem dX2_take_137 : decode cX2_take 137 = .ok (.iload 4, 2) := by decide +kernel
theorem dX2_take_139 : decode cX2_take 139 = .ok (.invokevirtual 117, 3) := by decide +kernel
theorem dX2_take_142 : decode cX2_take 142 = .ok (.invokevirtual 77, 3) := by decide +kernel
theorem dX2_take_145 : decode cX2_take 145 = .ok (.ireturn, 1) := by decide +kernel
theorem dX2_leastOf_0 : decode cX2_leastOf 0 = .ok (.aload_n 0, 1) := by decide +kernel
theorem dX2_leastOf_1 : decode cX2_leastOf 1 = .ok (.getfield 12, 3) := by decide +kernel
theorem dX2_leastOf_4 : decode cX2_leastOf 4 = .ok (.iload_n 1, 1) := by decide +kernel
theorem dX2_leastOf_5 : decode cX2_leastOf 5 = .ok (.invokevirtual 55, 3) := by decide +kernel
theorem dX2_leastOf_8 : decode cX2_leastOf 8 = .ok (.istore_n 2, 1) := by decide +kernel
theorem dX2_leastOf_9 : decode cX2_leastOf 9 = .ok (.aload_n 0, 1) := by decide +kernel
theorem dX2_leastOf_10 : decode cX2_leastOf 10 = .ok (.getfield 12, 3) := by decide +kernel
theorem dX2_leastOf_13 : decode cX2_leastOf 13 = .ok (.iload_n 1, 1) := by decide +kernel
theorem dX2_leastOf_14 : decode cX2_leastOf 14 = .ok (.invokevirtual 52, 3) := by decide +kernel
theorem dX2_leastOf_17 : decode cX2_leastOf 17 = .ok (.istore_n 3, 1) := by decide +kernel
theorem dX2_leastOf_18 : decode cX2_leastOf 18 = .ok (.iconst 0, 1) := by decide +kernel
theorem dX2_leastOf_19 : decode cX2_leastOf 19 = .ok (.istore 4, 2) := by decide +kernel
theorem dX2_leastOf_21 : decode cX2_leastOf 21 = .ok (.iload 4, 2) := by decide +kernel
theorem dX2_leastOf_23 : decode cX2_leastOf 23 = .ok (.bipush 64, 2) := by decide +kernel
theorem dX2_leastOf_25 : decode cX2_leastOf 25 = .ok (.if_icmp .ge 57, 3) := by decide +kernel
theorem dX2_leastOf_28 : decode cX2_leastOf 28 = .ok (.iload_n 3, 1) := by decide +kernel
theorem dX2_leastOf_29 : decode cX2_leastOf 29 = .ok (.ifCond .eq 53, 3) := by decide +kernel
theorem dX2_leastOf_32 : decode cX2_leastOf 32 = .ok (.aload_n 0, 1) := by decide +kernel
theorem dX2_leastOf_33 : decode cX2_leastOf 33 = .ok (.getfield 12, 3) := by decide +kernel
theorem dX2_leastOf_36 : decode cX2_leastOf 36 = .ok (.aload_n 0, 1) := by decide +kernel
theorem dX2_leastOf_37 : decode cX2_leastOf 37 = .ok (.getfield 12, 3) := by decide +kernel
theorem dX2_leastOf_40 : decode cX2_leastOf 40 = .ok (.iload_n 3, 1) := by decide +kernel
theorem dX2_leastOf_41 : decode cX2_leastOf 41 = .ok (.invokevirtual 55, 3) := by decide +kernel
theorem dX2_leastOf_44 : decode cX2_leastOf 44 = .ok (.invokevirtual 102, 3) := by decide +kernel
theorem dX2_leastOf_47 : decode cX2_leastOf 47 = .ok (.aload_n 0, 1) := by decide +kernel
theorem dX2_leastOf_48 : decode cX2_leastOf 48 = .ok (.getfield 12, 3) := by decide +kernel
theorem dX2_leastOf_51 : decode cX2_leastOf 51 = .ok (.iload_n 2, 1) := by decide +kernel
theorem dX2_leastOf_52 : decode cX2_leastOf 52 = .ok (.invokevirtual 102, 3) := by decide +kernel
theorem dX2_leastOf_55 : decode cX2_leastOf 55 = .ok (.if_icmp .ge 12, 3) := by decide +kernel
theorem dX2_leastOf_58 : decode cX2_leastOf 58 = .ok (.aload_n 0, 1) := by decide +kernel
theorem dX2_leastOf_59 : decode cX2_leastOf 59 = .ok (.getfield 12, 3) := by decide +kernel
theorem dX2_leastOf_62 : decode cX2_leastOf 62 = .ok (.iload_n 3, 1) := by decide +kernel
theorem dX2_leastOf_63 : decode cX2_leastOf 63 = .ok (.invokevirtual 55, 3) := by decide +kernel
theorem dX2_leastOf_66 : decode cX2_leastOf 66 = .ok (.istore_n 2, 1) := by decide +kernel
theorem dX2_leastOf_67 : decode cX2_leastOf 67 = .ok (.aload_n 0, 1) := by decide +kernel
theorem dX2_leastOf_68 : decode cX2_leastOf 68 = .ok (.getfield 12, 3) := by decide +kernel
theorem dX2_leastOf_71 : decode cX2_leastOf 71 = .ok (.iload_n 3, 1) := by decide +kernel
theorem dX2_leastOf_72 : decode cX2_leastOf 72 = .ok (.invokevirtual 52, 3) := by decide +kernel
theorem dX2_leastOf_75 : decode cX2_leastOf 75 = .ok (.istore_n 3, 1) := by decide +kernel
theorem dX2_leastOf_76 : decode cX2_leastOf 76 = .ok (.iinc 4 1, 3) := by decide +kernel
theorem dX2_leastOf_79 : decode cX2_leastOf 79 = .ok (.goto (-58), 3) := by decide +kernel
theorem dX2_leastOf_82 : decode cX2_leastOf 82 = .ok (.iload_n 2, 1) := by decide +kernel
theorem dX2_leastOf_83 : decode cX2_leastOf 83 = .ok (.ireturn, 1) := by decide +kernel
theorem dX2_turned_0 : decode cX2_turned 0 = .ok (.iconst 0, 1) := by decide +kernel
theorem dX2_turned_1 : decode cX2_turned 1 = .ok (.istore_n 2, 1) := by decide +kernel
theorem dX2_turned_2 : decode cX2_turned 2 = .ok (.iload_n 1, 1) := by decide +kernel
theorem dX2_turned_3 : decode cX2_turned 3 = .ok (.istore_n 3, 1) := by decide +kernel
theorem dX2_turned_4 : decode cX2_turned 4 = .ok (.iconst 0, 1) := by decide +kernel
theorem dX2_turned_5 : decode cX2_turned 5 = .ok (.istore 4, 2) := by decide +kernel
theorem dX2_turned_7 : decode cX2_turned 7 = .ok (.iload 4, 2) := by decide +kernel
theorem dX2_turned_9 : decode cX2_turned 9 = .ok (.bipush 64, 2) := by decide +kernel
theorem dX2_turned_11 : decode cX2_turned 11 = .ok (.if_icmp .ge 39, 3) := by decide +kernel
theorem dX2_turned_14 : decode cX2_turned 14 = .ok (.iload_n 3, 1) := by decide +kernel
theorem dX2_turned_15 : decode cX2_turned 15 = .ok (.ifCond .eq 35, 3) := by decide +kernel
theorem dX2_turned_18 : decode cX2_turned 18 = .ok (.aload_n 0, 1) := by decide +kernel
theorem dX2_turned_19 : decode cX2_turned 19 = .ok (.getfield 12, 3) := by decide +kernel
theorem dX2_turned_22 : decode cX2_turned 22 = .ok (.aload_n 0, 1) := by decide +kernel
theorem dX2_turned_23 : decode cX2_turned 23 = .ok (.getfield 12, 3) := by decide +kernel
theorem dX2_turned_26 : decode cX2_turned 26 = .ok (.iload_n 3, 1) := by decide +kernel
theorem dX2_turned_27 : decode cX2_turned 27 = .ok (.invokevirtual 55, 3) := by decide +kernel
theorem dX2_turned_30 : decode cX2_turned 30 = .ok (.iload_n 2, 1) := by decide +kernel
theorem dX2_turned_31 : decode cX2_turned 31 = .ok (.invokevirtual 126, 3) := by decide +kernel
theorem dX2_turned_34 : decode cX2_turned 34 = .ok (.istore_n 2, 1) := by decide +kernel
theorem dX2_turned_35 : decode cX2_turned 35 = .ok (.aload_n 0, 1) := by decide +kernel
theorem dX2_turned_36 : decode cX2_turned 36 = .ok (.getfield 12, 3) := by decide +kernel
theorem dX2_turned_39 : decode cX2_turned 39 = .ok (.iload_n 3, 1) := by decide +kernel
theorem dX2_turned_40 : decode cX2_turned 40 = .ok (.invokevirtual 52, 3) := by decide +kernel
theorem dX2_turned_43 : decode cX2_turned 43 = .ok (.istore_n 3, 1) := by decide +kernel
theorem dX2_turned_44 : decode cX2_turned 44 = .ok (.iinc 4 1, 3) := by decide +kernel
theorem dX2_turned_47 : decode cX2_turned 47 = .ok (.goto (-40), 3) := by decide +kernel
theorem dX2_turned_50 : decode cX2_turned 50 = .ok (.iload_n 2, 1) := by decide +kernel
theorem dX2_turned_51 : decode cX2_turned 51 = .ok (.ireturn, 1) := by decide +kernel
theorem dX2_allBut_0 : decode cX2_allBut 0 = .ok (.iconst 0, 1) := by decide +kernel
theorem dX2_allBut_1 : decode cX2_allBut 1 = .ok (.istore_n 3, 1) := by decide +kernel
theorem dX2_allBut_2 : decode cX2_allBut 2 = .ok (.iload_n 1, 1) := by decide +kernel
theorem dX2_allBut_3 : decode cX2_allBut 3 = .ok (.istore 4, 2) := by decide +kernel
theorem dX2_allBut_5 : decode cX2_allBut 5 = .ok (.iload_n 3, 1) := by decide +kernel
theorem dX2_allBut_6 : decode cX2_allBut 6 = .ok (.bipush 64, 2) := by decide +kernel
theorem dX2_allBut_8 : decode cX2_allBut 8 = .ok (.if_icmp .ge 55, 3) := by decide +kernel
theorem dX2_allBut_11 : decode cX2_allBut 11 = .ok (.iload 4, 2) := by decide +kernel
theorem dX2_allBut_13 : decode cX2_allBut 13 = .ok (.ifCond .eq 50, 3) := by decide +kernel
theorem dX2_allBut_16 : decode cX2_allBut 16 = .ok (.aload_n 0, 1) := by decide +kernel
theorem dX2_allBut_17 : decode cX2_allBut 17 = .ok (.getfield 12, 3) := by decide +kernel
theorem dX2_allBut_20 : decode cX2_allBut 20 = .ok (.iload 4, 2) := by decide +kernel
theorem dX2_allBut_22 : decode cX2_allBut 22 = .ok (.invokevirtual 55, 3) := by decide +kernel
theorem dX2_allBut_25 : decode cX2_allBut 25 = .ok (.iload_n 2, 1) := by decide +kernel
theorem dX2_allBut_26 : decode cX2_allBut 26 = .ok (.if_icmp .eq 37, 3) := by decide +kernel
theorem dX2_allBut_29 : decode cX2_allBut 29 = .ok (.aload_n 0, 1) := by decide +kernel
theorem dX2_allBut_30 : decode cX2_allBut 30 = .ok (.getfield 31, 3) := by decide +kernel
theorem dX2_allBut_33 : decode cX2_allBut 33 = .ok (.iload_n 3, 1) := by decide +kernel
theorem dX2_allBut_34 : decode cX2_allBut 34 = .ok (.aload_n 0, 1) := by decide +kernel
theorem dX2_allBut_35 : decode cX2_allBut 35 = .ok (.getfield 12, 3) := by decide +kernel
theorem dX2_allBut_38 : decode cX2_allBut 38 = .ok (.iload 4, 2) := by decide +kernel
theorem dX2_allBut_40 : decode cX2_allBut 40 = .ok (.invokevirtual 55, 3) := by decide +kernel
theorem dX2_allBut_43 : decode cX2_allBut 43 = .ok (.invokestatic 67, 3) := by decide +kernel
theorem dX2_allBut_46 : decode cX2_allBut 46 = .ok (.iinc 3 1, 3) := by decide +kernel
theorem dX2_allBut_49 : decode cX2_allBut 49 = .ok (.aload_n 0, 1) := by decide +kernel
theorem dX2_allBut_50 : decode cX2_allBut 50 = .ok (.getfield 12, 3) := by decide +kernel
theorem dX2_allBut_53 : decode cX2_allBut 53 = .ok (.iload 4, 2) := by decide +kernel
theorem dX2_allBut_55 : decode cX2_allBut 55 = .ok (.invokevirtual 52, 3) := by decide +kernel
theorem dX2_allBut_58 : decode cX2_allBut 58 = .ok (.istore 4, 2) := by decide +kernel
theorem dX2_allBut_60 : decode cX2_allBut 60 = .ok (.goto (-55), 3) := by decide +kernel
theorem dX2_allBut_63 : decode cX2_allBut 63 = .ok (.aload_n 0, 1) := by decide +kernel
theorem dX2_allBut_64 : decode cX2_allBut 64 = .ok (.getfield 12, 3) := by decide +kernel
theorem dX2_allBut_67 : decode cX2_allBut 67 = .ok (.iload 4, 2) := by decide +kernel
theorem dX2_allBut_69 : decode cX2_allBut 69 = .ok (.invokevirtual 52, 3) := by decide +kernel
theorem dX2_allBut_72 : decode cX2_allBut 72 = .ok (.istore 5, 2) := by decide +kernel
theorem dX2_allBut_74 : decode cX2_allBut 74 = .ok (.iload_n 3, 1) := by decide +kernel
theorem dX2_allBut_75 : decode cX2_allBut 75 = .ok (.iconst 1, 1) := by decide +kernel
theorem dX2_allBut_76 : decode cX2_allBut 76 = .ok (.isub, 1) := by decide +kernel
theorem dX2_allBut_77 : decode cX2_allBut 77 = .ok (.istore 6, 2) := by decide +kernel
theorem dX2_allBut_79 : decode cX2_allBut 79 = .ok (.iload 6, 2) := by decide +kernel
theorem dX2_allBut_81 : decode cX2_allBut 81 = .ok (.ifCond .lt 29, 3) := by decide +kernel
theorem dX2_allBut_84 : decode cX2_allBut 84 = .ok (.aload_n 0, 1) := by decide +kernel
theorem dX2_allBut_85 : decode cX2_allBut 85 = .ok (.getfield 12, 3) := by decide +kernel
theorem dX2_allBut_88 : decode cX2_allBut 88 = .ok (.aload_n 0, 1) := by decide +kernel
theorem dX2_allBut_89 : decode cX2_allBut 89 = .ok (.getfield 31, 3) := by decide +kernel
theorem dX2_allBut_92 : decode cX2_allBut 92 = .ok (.iload 6, 2) := by decide +kernel
theorem dX2_allBut_94 : decode cX2_allBut 94 = .ok (.invokestatic 38, 3) := by decide +kernel
theorem dX2_allBut_97 : decode cX2_allBut 97 = .ok (.iload 5, 2) := by decide +kernel
theorem dX2_allBut_99 : decode cX2_allBut 99 = .ok (.invokevirtual 126, 3) := by decide +kernel
theorem dX2_allBut_102 : decode cX2_allBut 102 = .ok (.istore 5, 2) := by decide +kernel
theorem dX2_allBut_104 : decode cX2_allBut 104 = .ok (.iinc 6 (-1), 3) := by decide +kernel
theorem dX2_allBut_107 : decode cX2_allBut 107 = .ok (.goto (-28), 3) := by decide +kernel
theorem dX2_allBut_110 : decode cX2_allBut 110 = .ok (.iload 5, 2) := by decide +kernel
theorem dX2_allBut_112 : decode cX2_allBut 112 = .ok (.ireturn, 1) := by decide +kernel
theorem dX2_putInto_0 : decode cX2_putInto 0 = .ok (.aload_n 0, 1) := by decide +kernel
theorem dX2_putInto_1 : decode cX2_putInto 1 = .ok (.getfield 12, 3) := by decide +kernel
theorem dX2_putInto_4 : decode cX2_putInto 4 = .ok (.iload_n 2, 1) := by decide +kernel
theorem dX2_putInto_5 : decode cX2_putInto 5 = .ok (.invokevirtual 55, 3) := by decide +kernel
theorem dX2_putInto_8 : decode cX2_putInto 8 = .ok (.istore_n 3, 1) := by decide +kernel
theorem dX2_putInto_9 : decode cX2_putInto 9 = .ok (.aload_n 0, 1) := by decide +kernel
theorem dX2_putInto_10 : decode cX2_putInto 10 = .ok (.getfield 12, 3) := by decide +kernel
theorem dX2_putInto_13 : decode cX2_putInto 13 = .ok (.iload_n 2, 1) := by decide +kernel
theorem dX2_putInto_14 : decode cX2_putInto 14 = .ok (.invokevirtual 52, 3) := by decide +kernel
theorem dX2_putInto_17 : decode cX2_putInto 17 = .ok (.istore 4, 2) := by decide +kernel
theorem dX2_putInto_19 : decode cX2_putInto 19 = .ok (.aload_n 0, 1) := by decide +kernel
theorem dX2_putInto_20 : decode cX2_putInto 20 = .ok (.getfield 12, 3) := by decide +kernel
theorem dX2_putInto_23 : decode cX2_putInto 23 = .ok (.iload 4, 2) := by decide +kernel
theorem dX2_putInto_25 : decode cX2_putInto 25 = .ok (.invokevirtual 55, 3) := by decide +kernel
theorem dX2_putInto_28 : decode cX2_putInto 28 = .ok (.istore 5, 2) := by decide +kernel
theorem dX2_putInto_30 : decode cX2_putInto 30 = .ok (.aload_n 0, 1) := by decide +kernel
theorem dX2_putInto_31 : decode cX2_putInto 31 = .ok (.getfield 34, 3) := by decide +kernel
theorem dX2_putInto_34 : decode cX2_putInto 34 = .ok (.ifCond .ne 57, 3) := by decide +kernel
theorem dX2_putInto_37 : decode cX2_putInto 37 = .ok (.iload 4, 2) := by decide +kernel
theorem dX2_putInto_39 : decode cX2_putInto 39 = .ok (.ifCond .eq 52, 3) := by decide +kernel
theorem dX2_putInto_42 : decode cX2_putInto 42 = .ok (.aload_n 0, 1) := by decide +kernel
theorem dX2_putInto_43 : decode cX2_putInto 43 = .ok (.getfield 12, 3) := by decide +kernel
theorem dX2_putInto_46 : decode cX2_putInto 46 = .ok (.iload_n 3, 1) := by decide +kernel
theorem dX2_putInto_47 : decode cX2_putInto 47 = .ok (.invokevirtual 129, 3) := by decide +kernel
theorem dX2_putInto_50 : decode cX2_putInto 50 = .ok (.aload_n 0, 1) := by decide +kernel
theorem dX2_putInto_51 : decode cX2_putInto 51 = .ok (.getfield 12, 3) := by decide +kernel
theorem dX2_putInto_54 : decode cX2_putInto 54 = .ok (.iload 5, 2) := by decide +kernel
theorem dX2_putInto_56 : decode cX2_putInto 56 = .ok (.invokevirtual 129, 3) := by decide +kernel
theorem dX2_putInto_59 : decode cX2_putInto 59 = .ok (.if_icmp .ne 32, 3) := by decide +kernel
theorem dX2_putInto_62 : decode cX2_putInto 62 = .ok (.aload_n 0, 1) := by decide +kernel
theorem dX2_putInto_63 : decode cX2_putInto 63 = .ok (.getfield 12, 3) := by decide +kernel
theorem dX2_putInto_66 : decode cX2_putInto 66 = .ok (.aload_n 0, 1) := by decide +kernel
theorem dX2_putInto_67 : decode cX2_putInto 67 = .ok (.aload_n 0, 1) := by decide +kernel
theorem dX2_putInto_68 : decode cX2_putInto 68 = .ok (.iload_n 3, 1) := by decide +kernel
theorem dX2_putInto_69 : decode cX2_putInto 69 = .ok (.iload 5, 2) := by decide +kernel
theorem dX2_putInto_71 : decode cX2_putInto 71 = .ok (.invokevirtual 132, 3) := by decide +kernel
theorem dX2_putInto_74 : decode cX2_putInto 74 = .ok (.iload_n 1, 1) := by decide +kernel
theorem dX2_putInto_75 : decode cX2_putInto 75 = .ok (.invokevirtual 135, 3) := by decide +kernel
theorem dX2_putInto_78 : decode cX2_putInto 78 = .ok (.aload_n 0, 1) := by decide +kernel
theorem dX2_putInto_79 : decode cX2_putInto 79 = .ok (.getfield 12, 3) := by decide +kernel
theorem dX2_putInto_82 : decode cX2_putInto 82 = .ok (.iload 4, 2) := by decide +kernel
theorem dX2_putInto_84 : decode cX2_putInto 84 = .ok (.invokevirtual 52, 3) := by decide +kernel
theorem dX2_putInto_87 : decode cX2_putInto 87 = .ok (.invokevirtual 126, 3) := by decide +kernel
theorem dX2_putInto_90 : decode cX2_putInto 90 = .ok (.ireturn, 1) := by decide +kernel
theorem dX2_putInto_91 : decode cX2_putInto 91 = .ok (.aload_n 0, 1) := by decide +kernel
theorem dX2_putInto_92 : decode cX2_putInto 92 = .ok (.getfield 12, 3) := by decide +kernel
theorem dX2_putInto_95 : decode cX2_putInto 95 = .ok (.iconst 0, 1) := by decide +kernel
theorem dX2_putInto_96 : decode cX2_putInto 96 = .ok (.iload_n 1, 1) := by decide +kernel
theorem dX2_putInto_97 : decode cX2_putInto 97 = .ok (.iconst 0, 1) := by decide +kernel
theorem dX2_putInto_98 : decode cX2_putInto 98 = .ok (.iconst 0, 1) := by decide +kernel
theorem dX2_putInto_99 : decode cX2_putInto 99 = .ok (.aload_n 0, 1) := by decide +kernel
theorem dX2_putInto_100 : decode cX2_putInto 100 = .ok (.getfield 12, 3) := by decide +kernel
theorem dX2_putInto_103 : decode cX2_putInto 103 = .ok (.iload_n 1, 1) := by decide +kernel
theorem dX2_putInto_104 : decode cX2_putInto 104 = .ok (.invokevirtual 138, 3) := by decide +kernel
theorem dX2_putInto_107 : decode cX2_putInto 107 = .ok (.aload_n 0, 1) := by decide +kernel
theorem dX2_putInto_108 : decode cX2_putInto 108 = .ok (.getfield 12, 3) := by decide +kernel
theorem dX2_putInto_111 : decode cX2_putInto 111 = .ok (.iload_n 1, 1) := by decide +kernel
theorem dX2_putInto_112 : decode cX2_putInto 112 = .ok (.invokevirtual 141, 3) := by decide +kernel
theorem dX2_putInto_115 : decode cX2_putInto 115 = .ok (.invokevirtual 144, 3) := by decide +kernel
theorem dX2_putInto_118 : decode cX2_putInto 118 = .ok (.istore 6, 2) := by decide +kernel
theorem dX2_putInto_120 : decode cX2_putInto 120 = .ok (.aload_n 0, 1) := by decide +kernel
theorem dX2_putInto_121 : decode cX2_putInto 121 = .ok (.getfield 34, 3) := by decide +kernel
theorem dX2_putInto_124 : decode cX2_putInto 124 = .ok (.ifCond .ne 16, 3) := by decide +kernel
theorem dX2_putInto_127 : decode cX2_putInto 127 = .ok (.aload_n 0, 1) := by decide +kernel
theorem dX2_putInto_128 : decode cX2_putInto 128 = .ok (.getfield 12, 3) := by decide +kernel
theorem dX2_putInto_131 : decode cX2_putInto 131 = .ok (.iload 6, 2) := by decide +kernel
theorem dX2_putInto_133 : decode cX2_putInto 133 = .ok (.iload_n 2, 1) := by decide +kernel
theorem dX2_putInto_134 : decode cX2_putInto 134 = .ok (.invokevirtual 126, 3) := by decide +kernel
theorem dX2_putInto_137 : decode cX2_putInto 137 = .ok (.goto 10, 3) := by decide +kernel
theorem dX2_putInto_140 : decode cX2_putInto 140 = .ok (.aload_n 0, 1) := by decide +kernel
theorem dX2_putInto_141 : decode cX2_putInto 141 = .ok (.iload 6, 2) := by decide +kernel
theorem dX2_putInto_143 : decode cX2_putInto 143 = .ok (.iload_n 2, 1) := by decide +kernel
theorem dX2_putInto_144 : decode cX2_putInto 144 = .ok (.invokevirtual 148, 3) := by decide +kernel
theorem dX2_putInto_147 : decode cX2_putInto 147 = .ok (.ireturn, 1) := by decide +kernel
theorem dX2_linkBeside_0 : decode cX2_linkBeside 0 = .ok (.aload_n 0, 1) := by decide +kernel
theorem dX2_linkBeside_1 : decode cX2_linkBeside 1 = .ok (.getfield 12, 3) := by decide +kernel
theorem dX2_linkBeside_4 : decode cX2_linkBeside 4 = .ok (.iload_n 1, 1) := by decide +kernel
theorem dX2_linkBeside_5 : decode cX2_linkBeside 5 = .ok (.invokevirtual 102, 3) := by decide +kernel
theorem dX2_linkBeside_8 : decode cX2_linkBeside 8 = .ok (.aload_n 0, 1) := by decide +kernel
theorem dX2_linkBeside_9 : decode cX2_linkBeside 9 = .ok (.getfield 12, 3) := by decide +kernel
theorem dX2_linkBeside_12 : decode cX2_linkBeside 12 = .ok (.iload_n 2, 1) := by decide +kernel
theorem dX2_linkBeside_13 : decode cX2_linkBeside 13 = .ok (.invokevirtual 102, 3) := by decide +kernel
theorem dX2_linkBeside_16 : decode cX2_linkBeside 16 = .ok (.if_icmp .ge 7, 3) := by decide +kernel
theorem dX2_linkBeside_19 : decode cX2_linkBeside 19 = .ok (.iconst 1, 1) := by decide +kernel
theorem dX2_linkBeside_20 : decode cX2_linkBeside 20 = .ok (.goto 4, 3) := by decide +kernel
theorem dX2_linkBeside_23 : decode cX2_linkBeside 23 = .ok (.iconst 0, 1) := by decide +kernel
theorem dX2_linkBeside_24 : decode cX2_linkBeside 24 = .ok (.istore_n 3, 1) := by decide +kernel
theorem dX2_linkBeside_25 : decode cX2_linkBeside 25 = .ok (.iload_n 3, 1) := by decide +kernel
theorem dX2_linkBeside_26 : decode cX2_linkBeside 26 = .ok (.ifCond .eq 14, 3) := by decide +kernel
theorem dX2_linkBeside_29 : decode cX2_linkBeside 29 = .ok (.aload_n 0, 1) := by decide +kernel
theorem dX2_linkBeside_30 : decode cX2_linkBeside 30 = .ok (.getfield 12, 3) := by decide +kernel
theorem dX2_linkBeside_33 : decode cX2_linkBeside 33 = .ok (.iload_n 1, 1) := by decide +kernel
theorem dX2_linkBeside_34 : decode cX2_linkBeside 34 = .ok (.invokevirtual 123, 3) := by decide +kernel
theorem dX2_linkBeside_37 : decode cX2_linkBeside 37 = .ok (.goto 4, 3) := by decide +kernel
theorem dX2_linkBeside_40 : decode cX2_linkBeside 40 = .ok (.iload_n 2, 1) := by decide +kernel
theorem dX2_linkBeside_41 : decode cX2_linkBeside 41 = .ok (.istore 4, 2) := by decide +kernel
theorem dX2_linkBeside_43 : decode cX2_linkBeside 43 = .ok (.iload_n 3, 1) := by decide +kernel
theorem dX2_linkBeside_44 : decode cX2_linkBeside 44 = .ok (.ifCond .eq 7, 3) := by decide +kernel
theorem dX2_linkBeside_47 : decode cX2_linkBeside 47 = .ok (.iload_n 2, 1) := by decide +kernel
theorem dX2_linkBeside_48 : decode cX2_linkBeside 48 = .ok (.goto 11, 3) := by decide +kernel
theorem dX2_linkBeside_51 : decode cX2_linkBeside 51 = .ok (.aload_n 0, 1) := by decide +kernel
theorem dX2_linkBeside_52 : decode cX2_linkBeside 52 = .ok (.getfield 12, 3) := by decide +kernel
theorem dX2_linkBeside_55 : decode cX2_linkBeside 55 = .ok (.iload_n 1, 1) := by decide +kernel
theorem dX2_linkBeside_56 : decode cX2_linkBeside 56 = .ok (.invokevirtual 123, 3) := by decide +kernel
theorem dX2_linkBeside_59 : decode cX2_linkBeside 59 = .ok (.istore 5, 2) := by decide +kernel
theorem dX2_linkBeside_61 : decode cX2_linkBeside 61 = .ok (.aload_n 0, 1) := by decide +kernel
theorem dX2_linkBeside_62 : decode cX2_linkBeside 62 = .ok (.getfield 12, 3) := by decide +kernel
theorem dX2_linkBeside_65 : decode cX2_linkBeside 65 = .ok (.iload 5, 2) := by decide +kernel
theorem dX2_linkBeside_67 : decode cX2_linkBeside 67 = .ok (.aload_n 0, 1) := by decide +kernel
theorem dX2_linkBeside_68 : decode cX2_linkBeside 68 = .ok (.getfield 12, 3) := by decide +kernel
theorem dX2_linkBeside_71 : decode cX2_linkBeside 71 = .ok (.iload_n 1, 1) := by decide +kernel
theorem dX2_linkBeside_72 : decode cX2_linkBeside 72 = .ok (.invokevirtual 120, 3) := by decide +kernel
theorem dX2_linkBeside_75 : decode cX2_linkBeside 75 = .ok (.invokevirtual 126, 3) := by decide +kernel
theorem dX2_linkBeside_78 : decode cX2_linkBeside 78 = .ok (.istore 6, 2) := by decide +kernel
theorem dX2_linkBeside_80 : decode cX2_linkBeside 80 = .ok (.aload_n 0, 1) := by decide +kernel
theorem dX2_linkBeside_81 : decode cX2_linkBeside 81 = .ok (.getfield 12, 3) := by decide +kernel
theorem dX2_linkBeside_84 : decode cX2_linkBeside 84 = .ok (.iload_n 1, 1) := by decide +kernel
theorem dX2_linkBeside_85 : decode cX2_linkBeside 85 = .ok (.invokevirtual 138, 3) := by decide +kernel
theorem dX2_linkBeside_88 : decode cX2_linkBeside 88 = .ok (.aload_n 0, 1) := by decide +kernel
theorem dX2_linkBeside_89 : decode cX2_linkBeside 89 = .ok (.getfield 12, 3) := by decide +kernel
theorem dX2_linkBeside_92 : decode cX2_linkBeside 92 = .ok (.iload_n 2, 1) := by decide +kernel
theorem dX2_linkBeside_93 : decode cX2_linkBeside 93 = .ok (.invokevirtual 138, 3) := by decide +kernel
theorem dX2_linkBeside_96 : decode cX2_linkBeside 96 = .ok (.iadd, 1) := by decide +kernel
theorem dX2_linkBeside_97 : decode cX2_linkBeside 97 = .ok (.istore 7, 2) := by decide +kernel
theorem dX2_linkBeside_99 : decode cX2_linkBeside 99 = .ok (.aload_n 0, 1) := by decide +kernel
theorem dX2_linkBeside_100 : decode cX2_linkBeside 100 = .ok (.getfield 12, 3) := by decide +kernel
theorem dX2_linkBeside_103 : decode cX2_linkBeside 103 = .ok (.iload_n 1, 1) := by decide +kernel
theorem dX2_linkBeside_104 : decode cX2_linkBeside 104 = .ok (.invokevirtual 141, 3) := by decide +kernel
theorem dX2_linkBeside_107 : decode cX2_linkBeside 107 = .ok (.aload_n 0, 1) := by decide +kernel
theorem dX2_linkBeside_108 : decode cX2_linkBeside 108 = .ok (.getfield 12, 3) := by decide +kernel
theorem dX2_linkBeside_111 : decode cX2_linkBeside 111 = .ok (.iload_n 2, 1) := by decide +kernel
theorem dX2_linkBeside_112 : decode cX2_linkBeside 112 = .ok (.invokevirtual 141, 3) := by decide +kernel
theorem dX2_linkBeside_115 : decode cX2_linkBeside 115 = .ok (.invokestatic 97, 3) := by decide +kernel
theorem dX2_linkBeside_118 : decode cX2_linkBeside 118 = .ok (.istore 8, 2) := by decide +kernel
theorem dX2_linkBeside_120 : decode cX2_linkBeside 120 = .ok (.aload_n 0, 1) := by decide +kernel
theorem dX2_linkBeside_121 : decode cX2_linkBeside 121 = .ok (.getfield 12, 3) := by decide +kernel
theorem dX2_linkBeside_124 : decode cX2_linkBeside 124 = .ok (.aload_n 0, 1) := by decide +kernel
theorem dX2_linkBeside_125 : decode cX2_linkBeside 125 = .ok (.getfield 12, 3) := by decide +kernel
theorem dX2_linkBeside_128 : decode cX2_linkBeside 128 = .ok (.iload_n 1, 1) := by decide +kernel
theorem dX2_linkBeside_129 : decode cX2_linkBeside 129 = .ok (.invokevirtual 129, 3) := by decide +kernel
theorem dX2_linkBeside_132 : decode cX2_linkBeside 132 = .ok (.iload 4, 2) := by decide +kernel
theorem dX2_linkBeside_134 : decode cX2_linkBeside 134 = .ok (.iload 6, 2) := by decide +kernel
theorem dX2_linkBeside_136 : decode cX2_linkBeside 136 = .ok (.aload_n 0, 1) := by decide +kernel
theorem dX2_linkBeside_137 : decode cX2_linkBeside 137 = .ok (.getfield 12, 3) := by decide +kernel
theorem dX2_linkBeside_140 : decode cX2_linkBeside 140 = .ok (.iload_n 1, 1) := by decide +kernel
theorem dX2_linkBeside_141 : decode cX2_linkBeside 141 = .ok (.invokevirtual 46, 3) := by decide +kernel
theorem dX2_linkBeside_144 : decode cX2_linkBeside 144 = .ok (.iload 7, 2) := by decide +kernel
theorem dX2_linkBeside_146 : decode cX2_linkBeside 146 = .ok (.iload 8, 2) := by decide +kernel
theorem dX2_linkBeside_148 : decode cX2_linkBeside 148 = .ok (.invokevirtual 144, 3) := by decide +kernel
theorem dX2_linkBeside_151 : decode cX2_linkBeside 151 = .ok (.ireturn, 1) := by decide +kernel
theorem dX2_link_0 : decode cX2_link 0 = .ok (.aload_n 0, 1) := by decide +kernel
theorem dX2_link_1 : decode cX2_link 1 = .ok (.dup, 1) := by decide +kernel
theorem dX2_link_2 : decode cX2_link 2 = .ok (.getfield 74, 3) := by decide +kernel
theorem dX2_link_5 : decode cX2_link 5 = .ok (.iconst 1, 1) := by decide +kernel
theorem dX2_link_6 : decode cX2_link 6 = .ok (.iadd, 1) := by decide +kernel
theorem dX2_link_7 : decode cX2_link 7 = .ok (.putfield 74, 3) := by decide +kernel
theorem dX2_link_10 : decode cX2_link 10 = .ok (.aload_n 0, 1) := by decide +kernel
theorem dX2_link_11 : decode cX2_link 11 = .ok (.getfield 12, 3) := by decide +kernel
theorem dX2_link_14 : decode cX2_link 14 = .ok (.iload_n 2, 1) := by decide +kernel
theorem dX2_link_15 : decode cX2_link 15 = .ok (.invokevirtual 102, 3) := by decide +kernel
theorem dX2_link_18 : decode cX2_link 18 = .ok (.aload_n 0, 1) := by decide +kernel
theorem dX2_link_19 : decode cX2_link 19 = .ok (.getfield 12, 3) := by decide +kernel
theorem dX2_link_22 : decode cX2_link 22 = .ok (.iload_n 1, 1) := by decide +kernel
theorem dX2_link_23 : decode cX2_link 23 = .ok (.invokevirtual 102, 3) := by decide +kernel
theorem dX2_link_26 : decode cX2_link 26 = .ok (.if_icmp .ge 7, 3) := by decide +kernel
theorem dX2_link_29 : decode cX2_link 29 = .ok (.iconst 1, 1) := by decide +kernel
theorem dX2_link_30 : decode cX2_link 30 = .ok (.goto 4, 3) := by decide +kernel
theorem dX2_link_33 : decode cX2_link 33 = .ok (.iconst 0, 1) := by decide +kernel
theorem dX2_link_34 : decode cX2_link 34 = .ok (.istore_n 3, 1) := by decide +kernel
theorem dX2_link_35 : decode cX2_link 35 = .ok (.iload_n 3, 1) := by decide +kernel
theorem dX2_link_36 : decode cX2_link 36 = .ok (.ifCond .eq 7, 3) := by decide +kernel
theorem dX2_link_39 : decode cX2_link 39 = .ok (.iload_n 2, 1) := by decide +kernel
theorem dX2_link_40 : decode cX2_link 40 = .ok (.goto 4, 3) := by decide +kernel
theorem dX2_link_43 : decode cX2_link 43 = .ok (.iload_n 1, 1) := by decide +kernel
theorem dX2_link_44 : decode cX2_link 44 = .ok (.istore 4, 2) := by decide +kernel
theorem dX2_link_46 : decode cX2_link 46 = .ok (.aload_n 0, 1) := by decide +kernel
theorem dX2_link_47 : decode cX2_link 47 = .ok (.getfield 12, 3) := by decide +kernel
theorem dX2_link_50 : decode cX2_link 50 = .ok (.iload_n 3, 1) := by decide +kernel
theorem dX2_link_51 : decode cX2_link 51 = .ok (.ifCond .eq 7, 3) := by decide +kernel
theorem dX2_link_54 : decode cX2_link 54 = .ok (.iload_n 1, 1) := by decide +kernel
theorem dX2_link_55 : decode cX2_link 55 = .ok (.goto 4, 3) := by decide +kernel
theorem dX2_link_58 : decode cX2_link 58 = .ok (.iload_n 2, 1) := by decide +kernel
theorem dX2_link_59 : decode cX2_link 59 = .ok (.aload_n 0, 1) := by decide +kernel
theorem dX2_link_60 : decode cX2_link 60 = .ok (.getfield 12, 3) := by decide +kernel
theorem dX2_link_63 : decode cX2_link 63 = .ok (.iload 4, 2) := by decide +kernel
theorem dX2_link_65 : decode cX2_link 65 = .ok (.invokevirtual 46, 3) := by decide +kernel
theorem dX2_link_68 : decode cX2_link 68 = .ok (.invokevirtual 126, 3) := by decide +kernel
theorem dX2_link_71 : decode cX2_link 71 = .ok (.istore 5, 2) := by decide +kernel
theorem dX2_link_73 : decode cX2_link 73 = .ok (.aload_n 0, 1) := by decide +kernel
theorem dX2_link_74 : decode cX2_link 74 = .ok (.getfield 12, 3) := by decide +kernel
theorem dX2_link_77 : decode cX2_link 77 = .ok (.iload 4, 2) := by decide +kernel
theorem dX2_link_79 : decode cX2_link 79 = .ok (.invokevirtual 129, 3) := by decide +kernel
theorem dX2_link_82 : decode cX2_link 82 = .ok (.iconst 1, 1) := by decide +kernel
theorem dX2_link_83 : decode cX2_link 83 = .ok (.iadd, 1) := by decide +kernel
theorem dX2_link_84 : decode cX2_link 84 = .ok (.istore 6, 2) := by decide +kernel
theorem dX2_link_86 : decode cX2_link 86 = .ok (.aload_n 0, 1) := by decide +kernel
theorem dX2_link_87 : decode cX2_link 87 = .ok (.getfield 12, 3) := by decide +kernel
theorem dX2_link_90 : decode cX2_link 90 = .ok (.iload_n 1, 1) := by decide +kernel
theorem dX2_link_91 : decode cX2_link 91 = .ok (.invokevirtual 138, 3) := by decide +kernel
theorem dX2_link_94 : decode cX2_link 94 = .ok (.aload_n 0, 1) := by decide +kernel
theorem dX2_link_95 : decode cX2_link 95 = .ok (.getfield 12, 3) := by decide +kernel
theorem dX2_link_98 : decode cX2_link 98 = .ok (.iload_n 2, 1) := by decide +kernel
theorem dX2_link_99 : decode cX2_link 99 = .ok (.invokevirtual 138, 3) := by decide +kernel
theorem dX2_link_102 : decode cX2_link 102 = .ok (.iadd, 1) := by decide +kernel
theorem dX2_link_103 : decode cX2_link 103 = .ok (.istore 7, 2) := by decide +kernel
theorem dX2_link_105 : decode cX2_link 105 = .ok (.aload_n 0, 1) := by decide +kernel
theorem dX2_link_106 : decode cX2_link 106 = .ok (.getfield 12, 3) := by decide +kernel
theorem dX2_link_109 : decode cX2_link 109 = .ok (.iload_n 1, 1) := by decide +kernel
theorem dX2_link_110 : decode cX2_link 110 = .ok (.invokevirtual 141, 3) := by decide +kernel
theorem dX2_link_113 : decode cX2_link 113 = .ok (.aload_n 0, 1) := by decide +kernel
theorem dX2_link_114 : decode cX2_link 114 = .ok (.getfield 12, 3) := by decide +kernel
theorem dX2_link_117 : decode cX2_link 117 = .ok (.iload_n 2, 1) := by decide +kernel
theorem dX2_link_118 : decode cX2_link 118 = .ok (.invokevirtual 141, 3) := by decide +kernel
theorem dX2_link_121 : decode cX2_link 121 = .ok (.invokestatic 97, 3) := by decide +kernel
theorem dX2_link_124 : decode cX2_link 124 = .ok (.istore 8, 2) := by decide +kernel
theorem dX2_link_126 : decode cX2_link 126 = .ok (.aload_n 0, 1) := by decide +kernel
theorem dX2_link_127 : decode cX2_link 127 = .ok (.getfield 12, 3) := by decide +kernel
theorem dX2_link_130 : decode cX2_link 130 = .ok (.iload 6, 2) := by decide +kernel
theorem dX2_link_132 : decode cX2_link 132 = .ok (.aload_n 0, 1) := by decide +kernel
theorem dX2_link_133 : decode cX2_link 133 = .ok (.getfield 12, 3) := by decide +kernel
theorem dX2_link_136 : decode cX2_link 136 = .ok (.iload 4, 2) := by decide +kernel
theorem dX2_link_138 : decode cX2_link 138 = .ok (.invokevirtual 123, 3) := by decide +kernel
theorem dX2_link_141 : decode cX2_link 141 = .ok (.aload_n 0, 1) := by decide +kernel
theorem dX2_link_142 : decode cX2_link 142 = .ok (.getfield 12, 3) := by decide +kernel
theorem dX2_link_145 : decode cX2_link 145 = .ok (.iload 4, 2) := by decide +kernel
theorem dX2_link_147 : decode cX2_link 147 = .ok (.invokevirtual 120, 3) := by decide +kernel
theorem dX2_link_150 : decode cX2_link 150 = .ok (.iload 5, 2) := by decide +kernel
theorem dX2_link_152 : decode cX2_link 152 = .ok (.iload 7, 2) := by decide +kernel
theorem dX2_link_154 : decode cX2_link 154 = .ok (.iload 8, 2) := by decide +kernel
theorem dX2_link_156 : decode cX2_link 156 = .ok (.invokevirtual 144, 3) := by decide +kernel
theorem dX2_link_159 : decode cX2_link 159 = .ok (.ireturn, 1) := by decide +kernel
theorem dX2_carry_0 : decode cX2_carry 0 = .ok (.iload_n 1, 1) := by decide +kernel
theorem dX2_carry_1 : decode cX2_carry 1 = .ok (.ifCond .ne 5, 3) := by decide +kernel
theorem dX2_carry_4 : decode cX2_carry 4 = .ok (.iload_n 2, 1) := by decide +kernel
theorem dX2_carry_5 : decode cX2_carry 5 = .ok (.ireturn, 1) := by decide +kernel
theorem dX2_carry_6 : decode cX2_carry 6 = .ok (.iload_n 1, 1) := by decide +kernel
theorem dX2_carry_7 : decode cX2_carry 7 = .ok (.istore_n 3, 1) := by decide +kernel
theorem dX2_carry_8 : decode cX2_carry 8 = .ok (.iload_n 2, 1) := by decide +kernel
theorem dX2_carry_9 : decode cX2_carry 9 = .ok (.istore 4, 2) := by decide +kernel
theorem dX2_carry_11 : decode cX2_carry 11 = .ok (.iconst 0, 1) := by decide +kernel
theorem dX2_carry_12 : decode cX2_carry 12 = .ok (.istore 5, 2) := by decide +kernel
theorem dX2_carry_14 : decode cX2_carry 14 = .ok (.iload 5, 2) := by decide +kernel
theorem dX2_carry_16 : decode cX2_carry 16 = .ok (.bipush 64, 2) := by decide +kernel
theorem dX2_carry_18 : decode cX2_carry 18 = .ok (.if_icmp .ge 70, 3) := by decide +kernel
theorem dX2_carry_21 : decode cX2_carry 21 = .ok (.iload 4, 2) := by decide +kernel
theorem dX2_carry_23 : decode cX2_carry 23 = .ok (.ifCond .eq 65, 3) := by decide +kernel
theorem dX2_carry_26 : decode cX2_carry 26 = .ok (.aload_n 0, 1) := by decide +kernel
theorem dX2_carry_27 : decode cX2_carry 27 = .ok (.getfield 12, 3) := by decide +kernel
theorem dX2_carry_30 : decode cX2_carry 30 = .ok (.iload_n 3, 1) := by decide +kernel
theorem dX2_carry_31 : decode cX2_carry 31 = .ok (.invokevirtual 129, 3) := by decide +kernel
theorem dX2_carry_34 : decode cX2_carry 34 = .ok (.aload_n 0, 1) := by decide +kernel
theorem dX2_carry_35 : decode cX2_carry 35 = .ok (.getfield 12, 3) := by decide +kernel
theorem dX2_carry_38 : decode cX2_carry 38 = .ok (.aload_n 0, 1) := by decide +kernel
theorem dX2_carry_39 : decode cX2_carry 39 = .ok (.getfield 12, 3) := by decide +kernel
theorem dX2_carry_42 : decode cX2_carry 42 = .ok (.iload 4, 2) := by decide +kernel
theorem dX2_carry_44 : decode cX2_carry 44 = .ok (.invokevirtual 55, 3) := by decide +kernel
theorem dX2_carry_47 : decode cX2_carry 47 = .ok (.invokevirtual 129, 3) := by decide +kernel
theorem dX2_carry_50 : decode cX2_carry 50 = .ok (.if_icmp .ge 6, 3) := by decide +kernel
theorem dX2_carry_53 : decode cX2_carry 53 = .ok (.goto 35, 3) := by decide +kernel
theorem dX2_carry_56 : decode cX2_carry 56 = .ok (.aload_n 0, 1) := by decide +kernel
theorem dX2_carry_57 : decode cX2_carry 57 = .ok (.iload_n 3, 1) := by decide +kernel
theorem dX2_carry_58 : decode cX2_carry 58 = .ok (.aload_n 0, 1) := by decide +kernel
theorem dX2_carry_59 : decode cX2_carry 59 = .ok (.getfield 12, 3) := by decide +kernel
theorem dX2_carry_62 : decode cX2_carry 62 = .ok (.iload 4, 2) := by decide +kernel
theorem dX2_carry_64 : decode cX2_carry 64 = .ok (.invokevirtual 55, 3) := by decide +kernel
theorem dX2_carry_67 : decode cX2_carry 67 = .ok (.invokevirtual 132, 3) := by decide +kernel
theorem dX2_carry_70 : decode cX2_carry 70 = .ok (.istore_n 3, 1) := by decide +kernel
theorem dX2_carry_71 : decode cX2_carry 71 = .ok (.aload_n 0, 1) := by decide +kernel
theorem dX2_carry_72 : decode cX2_carry 72 = .ok (.getfield 12, 3) := by decide +kernel
theorem dX2_carry_75 : decode cX2_carry 75 = .ok (.iload 4, 2) := by decide +kernel
theorem dX2_carry_77 : decode cX2_carry 77 = .ok (.invokevirtual 52, 3) := by decide +kernel
theorem dX2_carry_80 : decode cX2_carry 80 = .ok (.istore 4, 2) := by decide +kernel
theorem dX2_carry_82 : decode cX2_carry 82 = .ok (.iinc 5 1, 3) := by decide +kernel
theorem dX2_carry_85 : decode cX2_carry 85 = .ok (.goto (-71), 3) := by decide +kernel
theorem dX2_carry_88 : decode cX2_carry 88 = .ok (.aload_n 0, 1) := by decide +kernel
theorem dX2_carry_89 : decode cX2_carry 89 = .ok (.getfield 12, 3) := by decide +kernel
theorem dX2_carry_92 : decode cX2_carry 92 = .ok (.iload_n 3, 1) := by decide +kernel
theorem dX2_carry_93 : decode cX2_carry 93 = .ok (.iload 4, 2) := by decide +kernel
theorem dX2_carry_95 : decode cX2_carry 95 = .ok (.invokevirtual 126, 3) := by decide +kernel
theorem dX2_carry_98 : decode cX2_carry 98 = .ok (.ireturn, 1) := by decide +kernel
theorem dX2_merge_0 : decode cX2_merge 0 = .ok (.aload_n 0, 1) := by decide +kernel
theorem dX2_merge_1 : decode cX2_merge 1 = .ok (.aload_n 0, 1) := by decide +kernel
theorem dX2_merge_2 : decode cX2_merge 2 = .ok (.getfield 12, 3) := by decide +kernel
theorem dX2_merge_5 : decode cX2_merge 5 = .ok (.iload_n 1, 1) := by decide +kernel
theorem dX2_merge_6 : decode cX2_merge 6 = .ok (.invokevirtual 55, 3) := by decide +kernel
theorem dX2_merge_9 : decode cX2_merge 9 = .ok (.aload_n 0, 1) := by decide +kernel
theorem dX2_merge_10 : decode cX2_merge 10 = .ok (.getfield 12, 3) := by decide +kernel
theorem dX2_merge_13 : decode cX2_merge 13 = .ok (.iload_n 1, 1) := by decide +kernel
theorem dX2_merge_14 : decode cX2_merge 14 = .ok (.invokevirtual 52, 3) := by decide +kernel
theorem dX2_merge_17 : decode cX2_merge 17 = .ok (.invokevirtual 148, 3) := by decide +kernel
theorem dX2_merge_20 : decode cX2_merge 20 = .ok (.istore_n 3, 1) := by decide +kernel
theorem dX2_merge_21 : decode cX2_merge 21 = .ok (.aload_n 0, 1) := by decide +kernel
theorem dX2_merge_22 : decode cX2_merge 22 = .ok (.aload_n 0, 1) := by decide +kernel
theorem dX2_merge_23 : decode cX2_merge 23 = .ok (.getfield 12, 3) := by decide +kernel
theorem dX2_merge_26 : decode cX2_merge 26 = .ok (.iload_n 2, 1) := by decide +kernel
theorem dX2_merge_27 : decode cX2_merge 27 = .ok (.invokevirtual 55, 3) := by decide +kernel
theorem dX2_merge_30 : decode cX2_merge 30 = .ok (.aload_n 0, 1) := by decide +kernel
theorem dX2_merge_31 : decode cX2_merge 31 = .ok (.getfield 12, 3) := by decide +kernel
theorem dX2_merge_34 : decode cX2_merge 34 = .ok (.iload_n 2, 1) := by decide +kernel
theorem dX2_merge_35 : decode cX2_merge 35 = .ok (.invokevirtual 52, 3) := by decide +kernel
theorem dX2_merge_38 : decode cX2_merge 38 = .ok (.invokevirtual 148, 3) := by decide +kernel
theorem dX2_merge_41 : decode cX2_merge 41 = .ok (.istore 4, 2) := by decide +kernel
theorem dX2_merge_43 : decode cX2_merge 43 = .ok (.iconst 0, 1) := by decide +kernel
theorem dX2_merge_44 : decode cX2_merge 44 = .ok (.istore 5, 2) := by decide +kernel
theorem dX2_merge_46 : decode cX2_merge 46 = .ok (.iload 5, 2) := by decide +kernel
theorem dX2_merge_48 : decode cX2_merge 48 = .ok (.bipush 64, 2) := by decide +kernel
theorem dX2_merge_50 : decode cX2_merge 50 = .ok (.if_icmp .ge 142, 3) := by decide +kernel
theorem dX2_merge_53 : decode cX2_merge 53 = .ok (.iload_n 3, 1) := by decide +kernel
theorem dX2_merge_54 : decode cX2_merge 54 = .ok (.ifCond .eq 138, 3) := by decide +kernel
theorem dX2_merge_57 : decode cX2_merge 57 = .ok (.iload 4, 2) := by decide +kernel
theorem dX2_merge_59 : decode cX2_merge 59 = .ok (.ifCond .eq 133, 3) := by decide +kernel
theorem dX2_merge_62 : decode cX2_merge 62 = .ok (.aload_n 0, 1) := by decide +kernel
theorem dX2_merge_63 : decode cX2_merge 63 = .ok (.getfield 12, 3) := by decide +kernel
theorem dX2_merge_66 : decode cX2_merge 66 = .ok (.iload_n 3, 1) := by decide +kernel
theorem dX2_merge_67 : decode cX2_merge 67 = .ok (.invokevirtual 55, 3) := by decide +kernel
theorem dX2_merge_70 : decode cX2_merge 70 = .ok (.istore 6, 2) := by decide +kernel
theorem dX2_merge_72 : decode cX2_merge 72 = .ok (.aload_n 0, 1) := by decide +kernel
theorem dX2_merge_73 : decode cX2_merge 73 = .ok (.getfield 12, 3) := by decide +kernel
theorem dX2_merge_76 : decode cX2_merge 76 = .ok (.iload 4, 2) := by decide +kernel
theorem dX2_merge_78 : decode cX2_merge 78 = .ok (.invokevirtual 55, 3) := by decide +kernel
theorem dX2_merge_81 : decode cX2_merge 81 = .ok (.istore 7, 2) := by decide +kernel
theorem dX2_merge_83 : decode cX2_merge 83 = .ok (.aload_n 0, 1) := by decide +kernel
theorem dX2_merge_84 : decode cX2_merge 84 = .ok (.getfield 12, 3) := by decide +kernel
theorem dX2_merge_87 : decode cX2_merge 87 = .ok (.iload 6, 2) := by decide +kernel
theorem dX2_merge_89 : decode cX2_merge 89 = .ok (.invokevirtual 129, 3) := by decide +kernel
theorem dX2_merge_92 : decode cX2_merge 92 = .ok (.aload_n 0, 1) := by decide +kernel
theorem dX2_merge_93 : decode cX2_merge 93 = .ok (.getfield 12, 3) := by decide +kernel
theorem dX2_merge_96 : decode cX2_merge 96 = .ok (.iload 7, 2) := by decide +kernel
theorem dX2_merge_98 : decode cX2_merge 98 = .ok (.invokevirtual 129, 3) := by decide +kernel
theorem dX2_merge_101 : decode cX2_merge 101 = .ok (.invokestatic 151, 3) := by decide +kernel
theorem dX2_merge_104 : decode cX2_merge 104 = .ok (.istore 8, 2) := by decide +kernel
theorem dX2_merge_106 : decode cX2_merge 106 = .ok (.iload 8, 2) := by decide +kernel
theorem dX2_merge_108 : decode cX2_merge 108 = .ok (.ifCond .ge 8, 3) := by decide +kernel
theorem dX2_merge_111 : decode cX2_merge 111 = .ok (.iload 6, 2) := by decide +kernel
theorem dX2_merge_113 : decode cX2_merge 113 = .ok (.goto 5, 3) := by decide +kernel
theorem dX2_merge_116 : decode cX2_merge 116 = .ok (.iload 7, 2) := by decide +kernel
theorem dX2_merge_118 : decode cX2_merge 118 = .ok (.istore 9, 2) := by decide +kernel
theorem dX2_merge_120 : decode cX2_merge 120 = .ok (.aload_n 0, 1) := by decide +kernel
theorem dX2_merge_121 : decode cX2_merge 121 = .ok (.getfield 31, 3) := by decide +kernel
theorem dX2_merge_124 : decode cX2_merge 124 = .ok (.iload 5, 2) := by decide +kernel
theorem dX2_merge_126 : decode cX2_merge 126 = .ok (.iload 8, 2) := by decide +kernel
theorem dX2_merge_128 : decode cX2_merge 128 = .ok (.ifCond .ne 14, 3) := by decide +kernel
theorem dX2_merge_131 : decode cX2_merge 131 = .ok (.aload_n 0, 1) := by decide +kernel
theorem dX2_merge_132 : decode cX2_merge 132 = .ok (.iload 6, 2) := by decide +kernel
theorem dX2_merge_134 : decode cX2_merge 134 = .ok (.iload 7, 2) := by decide +kernel
theorem dX2_merge_136 : decode cX2_merge 136 = .ok (.invokevirtual 132, 3) := by decide +kernel
theorem dX2_merge_139 : decode cX2_merge 139 = .ok (.goto 5, 3) := by decide +kernel
theorem dX2_merge_142 : decode cX2_merge 142 = .ok (.iload 9, 2) := by decide +kernel
theorem dX2_merge_144 : decode cX2_merge 144 = .ok (.invokestatic 67, 3) := by decide +kernel
theorem dX2_merge_147 : decode cX2_merge 147 = .ok (.iinc 5 1, 3) := by decide +kernel
theorem dX2_merge_150 : decode cX2_merge 150 = .ok (.iload 8, 2) := by decide +kernel
theorem dX2_merge_152 : decode cX2_merge 152 = .ok (.ifCond .gt 14, 3) := by decide +kernel
theorem dX2_merge_155 : decode cX2_merge 155 = .ok (.aload_n 0, 1) := by decide +kernel
theorem dX2_merge_156 : decode cX2_merge 156 = .ok (.getfield 12, 3) := by decide +kernel
theorem dX2_merge_159 : decode cX2_merge 159 = .ok (.iload_n 3, 1) := by decide +kernel
theorem dX2_merge_160 : decode cX2_merge 160 = .ok (.invokevirtual 52, 3) := by decide +kernel
theorem dX2_merge_163 : decode cX2_merge 163 = .ok (.goto 4, 3) := by decide +kernel
theorem dX2_merge_166 : decode cX2_merge 166 = .ok (.iload_n 3, 1) := by decide +kernel
theorem dX2_merge_167 : decode cX2_merge 167 = .ok (.istore_n 3, 1) := by decide +kernel
theorem dX2_merge_168 : decode cX2_merge 168 = .ok (.iload 8, 2) := by decide +kernel
theorem dX2_merge_170 : decode cX2_merge 170 = .ok (.ifCond .lt 15, 3) := by decide +kernel
theorem dX2_merge_173 : decode cX2_merge 173 = .ok (.aload_n 0, 1) := by decide +kernel
theorem dX2_merge_174 : decode cX2_merge 174 = .ok (.getfield 12, 3) := by decide +kernel
theorem dX2_merge_177 : decode cX2_merge 177 = .ok (.iload 4, 2) := by decide +kernel
theorem dX2_merge_179 : decode cX2_merge 179 = .ok (.invokevirtual 52, 3) := by decide +kernel
theorem dX2_merge_182 : decode cX2_merge 182 = .ok (.goto 5, 3) := by decide +kernel
theorem dX2_merge_185 : decode cX2_merge 185 = .ok (.iload 4, 2) := by decide +kernel
theorem dX2_merge_187 : decode cX2_merge 187 = .ok (.istore 4, 2) := by decide +kernel
theorem dX2_merge_189 : decode cX2_merge 189 = .ok (.goto (-143), 3) := by decide +kernel
theorem dX2_merge_192 : decode cX2_merge 192 = .ok (.iload_n 3, 1) := by decide +kernel
theorem dX2_merge_193 : decode cX2_merge 193 = .ok (.ifCond .ne 8, 3) := by decide +kernel
theorem dX2_merge_196 : decode cX2_merge 196 = .ok (.iload 4, 2) := by decide +kernel
theorem dX2_merge_198 : decode cX2_merge 198 = .ok (.goto 4, 3) := by decide +kernel
theorem dX2_merge_201 : decode cX2_merge 201 = .ok (.iload_n 3, 1) := by decide +kernel
theorem dX2_merge_202 : decode cX2_merge 202 = .ok (.istore 6, 2) := by decide +kernel
theorem dX2_merge_204 : decode cX2_merge 204 = .ok (.iload 5, 2) := by decide +kernel
theorem dX2_merge_206 : decode cX2_merge 206 = .ok (.iconst 1, 1) := by decide +kernel
theorem dX2_merge_207 : decode cX2_merge 207 = .ok (.isub, 1) := by decide +kernel
theorem dX2_merge_208 : decode cX2_merge 208 = .ok (.istore 7, 2) := by decide +kernel
theorem dX2_merge_210 : decode cX2_merge 210 = .ok (.iload 7, 2) := by decide +kernel
theorem dX2_merge_212 : decode cX2_merge 212 = .ok (.ifCond .lt 26, 3) := by decide +kernel
theorem dX2_merge_215 : decode cX2_merge 215 = .ok (.aload_n 0, 1) := by decide +kernel
theorem dX2_merge_216 : decode cX2_merge 216 = .ok (.aload_n 0, 1) := by decide +kernel
theorem dX2_merge_217 : decode cX2_merge 217 = .ok (.getfield 31, 3) := by decide +kernel
theorem dX2_merge_220 : decode cX2_merge 220 = .ok (.iload 7, 2) := by decide +kernel
theorem dX2_merge_222 : decode cX2_merge 222 = .ok (.invokestatic 38, 3) := by decide +kernel
theorem dX2_merge_225 : decode cX2_merge 225 = .ok (.iload 6, 2) := by decide +kernel
theorem dX2_merge_227 : decode cX2_merge 227 = .ok (.invokevirtual 148, 3) := by decide +kernel
theorem dX2_merge_230 : decode cX2_merge 230 = .ok (.istore 6, 2) := by decide +kernel
theorem dX2_merge_232 : decode cX2_merge 232 = .ok (.iinc 7 (-1), 3) := by decide +kernel
theorem dX2_merge_235 : decode cX2_merge 235 = .ok (.goto (-25), 3) := by decide +kernel
theorem dX2_merge_238 : decode cX2_merge 238 = .ok (.iload 6, 2) := by decide +kernel
theorem dX2_merge_240 : decode cX2_merge 240 = .ok (.ireturn, 1) := by decide +kernel
theorem dX3_init_0 : decode cX3_init 0 = .ok (.aload_n 0, 1) := by decide +kernel
theorem dX3_init_1 : decode cX3_init 1 = .ok (.invokespecial 3, 3) := by decide +kernel
theorem dX3_init_4 : decode cX3_init 4 = .ok (.aload_n 0, 1) := by decide +kernel
theorem dX3_init_5 : decode cX3_init 5 = .ok (.bipush 30, 2) := by decide +kernel
theorem dX3_init_7 : decode cX3_init 7 = .ok (.newarray .int, 2) := by decide +kernel
theorem dX3_init_9 : decode cX3_init 9 = .ok (.putfield 9, 3) := by decide +kernel
theorem dX3_init_12 : decode cX3_init 12 = .ok (.aload_n 0, 1) := by decide +kernel
theorem dX3_init_13 : decode cX3_init 13 = .ok (.bipush 30, 2) := by decide +kernel
theorem dX3_init_15 : decode cX3_init 15 = .ok (.newarray .int, 2) := by decide +kernel
theorem dX3_init_17 : decode cX3_init 17 = .ok (.putfield 15, 3) := by decide +kernel
theorem dX3_init_20 : decode cX3_init 20 = .ok (.return_, 1) := by decide +kernel
theorem dX3_known_0 : decode cX3_known 0 = .ok (.aload_n 0, 1) := by decide +kernel
theorem dX3_known_1 : decode cX3_known 1 = .ok (.getfield 18, 3) := by decide +kernel
theorem dX3_known_4 : decode cX3_known 4 = .ok (.ireturn, 1) := by decide +kernel
theorem dX3_has_0 : decode cX3_has 0 = .ok (.iload_n 1, 1) := by decide +kernel
theorem dX3_has_1 : decode cX3_has 1 = .ok (.ifCond .lt 15, 3) := by decide +kernel
theorem dX3_has_4 : decode cX3_has 4 = .ok (.iload_n 1, 1) := by decide +kernel
theorem dX3_has_5 : decode cX3_has 5 = .ok (.aload_n 0, 1) := by decide +kernel
theorem dX3_has_6 : decode cX3_has 6 = .ok (.getfield 18, 3) := by decide +kernel
theorem dX3_has_9 : decode cX3_has 9 = .ok (.if_icmp .ge 7, 3) := by decide +kernel
theorem dX3_has_12 : decode cX3_has 12 = .ok (.iconst 1, 1) := by decide +kernel
theorem dX3_has_13 : decode cX3_has 13 = .ok (.goto 4, 3) := by decide +kernel
theorem dX3_has_16 : decode cX3_has 16 = .ok (.iconst 0, 1) := by decide +kernel
theorem dX3_has_17 : decode cX3_has 17 = .ok (.ireturn, 1) := by decide +kernel
theorem dX3_add_0 : decode cX3_add 0 = .ok (.aload_n 0, 1) := by decide +kernel
theorem dX3_add_1 : decode cX3_add 1 = .ok (.getfield 9, 3) := by decide +kernel
theorem dX3_add_4 : decode cX3_add 4 = .ok (.aload_n 0, 1) := by decide +kernel
theorem dX3_add_5 : decode cX3_add 5 = .ok (.getfield 18, 3) := by decide +kernel
theorem dX3_add_8 : decode cX3_add 8 = .ok (.iload_n 1, 1) := by decide +kernel
theorem dX3_add_9 : decode cX3_add 9 = .ok (.invokestatic 22, 3) := by decide +kernel
theorem dX3_add_12 : decode cX3_add 12 = .ok (.aload_n 0, 1) := by decide +kernel
theorem dX3_add_13 : decode cX3_add 13 = .ok (.getfield 15, 3) := by decide +kernel
theorem dX3_add_16 : decode cX3_add 16 = .ok (.aload_n 0, 1) := by decide +kernel
theorem dX3_add_17 : decode cX3_add 17 = .ok (.getfield 18, 3) := by decide +kernel
theorem dX3_add_20 : decode cX3_add 20 = .ok (.iload_n 2, 1) := by decide +kernel
theorem dX3_add_21 : decode cX3_add 21 = .ok (.invokestatic 22, 3) := by decide +kernel
theorem dX3_add_24 : decode cX3_add 24 = .ok (.aload_n 0, 1) := by decide +kernel
theorem dX3_add_25 : decode cX3_add 25 = .ok (.dup, 1) := by decide +kernel
theorem dX3_add_26 : decode cX3_add 26 = .ok (.getfield 18, 3) := by decide +kernel
theorem dX3_add_29 : decode cX3_add 29 = .ok (.iconst 1, 1) := by decide +kernel
theorem dX3_add_30 : decode cX3_add 30 = .ok (.iadd, 1) := by decide +kernel
theorem dX3_add_31 : decode cX3_add 31 = .ok (.putfield 18, 3) := by decide +kernel
theorem dX3_add_34 : decode cX3_add 34 = .ok (.aload_n 0, 1) := by decide +kernel
theorem dX3_add_35 : decode cX3_add 35 = .ok (.getfield 18, 3) := by decide +kernel
theorem dX3_add_38 : decode cX3_add 38 = .ok (.iconst 1, 1) := by decide +kernel
theorem dX3_add_39 : decode cX3_add 39 = .ok (.isub, 1) := by decide +kernel
theorem dX3_add_40 : decode cX3_add 40 = .ok (.ireturn, 1) := by decide +kernel
theorem dX3_cut_0 : decode cX3_cut 0 = .ok (.aload_n 0, 1) := by decide +kernel
theorem dX3_cut_1 : decode cX3_cut 1 = .ok (.iload_n 1, 1) := by decide +kernel
theorem dX3_cut_2 : decode cX3_cut 2 = .ok (.putfield 18, 3) := by decide +kernel
theorem dX3_cut_5 : decode cX3_cut 5 = .ok (.return_, 1) := by decide +kernel
theorem dX3_keyOf_0 : decode cX3_keyOf 0 = .ok (.aload_n 0, 1) := by decide +kernel
theorem dX3_keyOf_1 : decode cX3_keyOf 1 = .ok (.getfield 9, 3) := by decide +kernel
theorem dX3_keyOf_4 : decode cX3_keyOf 4 = .ok (.iload_n 1, 1) := by decide +kernel
theorem dX3_keyOf_5 : decode cX3_keyOf 5 = .ok (.invokestatic 26, 3) := by decide +kernel
theorem dX3_keyOf_8 : decode cX3_keyOf 8 = .ok (.ireturn, 1) := by decide +kernel
theorem dX3_timeOf_0 : decode cX3_timeOf 0 = .ok (.aload_n 0, 1) := by decide +kernel
theorem dX3_timeOf_1 : decode cX3_timeOf 1 = .ok (.getfield 15, 3) := by decide +kernel
theorem dX3_timeOf_4 : decode cX3_timeOf 4 = .ok (.iload_n 1, 1) := by decide +kernel
theorem dX3_timeOf_5 : decode cX3_timeOf 5 = .ok (.invokestatic 26, 3) := by decide +kernel
theorem dX3_timeOf_8 : decode cX3_timeOf 8 = .ok (.ireturn, 1) := by decide +kernel
theorem dX3_turnOf_0 : decode cX3_turnOf 0 = .ok (.aload_n 0, 1) := by decide +kernel
theorem dX3_turnOf_1 : decode cX3_turnOf 1 = .ok (.iload_n 1, 1) := by decide +kernel
theorem dX3_turnOf_2 : decode cX3_turnOf 2 = .ok (.invokevirtual 30, 3) := by decide +kernel
theorem dX3_turnOf_5 : decode cX3_turnOf 5 = .ok (.bipush 30, 2) := by decide +kernel
theorem dX3_turnOf_7 : decode cX3_turnOf 7 = .ok (.imul, 1) := by decide +kernel
theorem dX3_turnOf_8 : decode cX3_turnOf 8 = .ok (.iload_n 1, 1) := by decide +kernel
theorem dX3_turnOf_9 : decode cX3_turnOf 9 = .ok (.iadd, 1) := by decide +kernel
theorem dX3_turnOf_10 : decode cX3_turnOf 10 = .ok (.ireturn, 1) := by decide +kernel
theorem dX3_jobOfTurn_0 : decode cX3_jobOfTurn 0 = .ok (.iload_n 0, 1) := by decide +kernel
theorem dX3_jobOfTurn_1 : decode cX3_jobOfTurn 1 = .ok (.bipush 30, 2) := by decide +kernel
theorem dX3_jobOfTurn_3 : decode cX3_jobOfTurn 3 = .ok (.irem, 1) := by decide +kernel
theorem dX3_jobOfTurn_4 : decode cX3_jobOfTurn 4 = .ok (.ireturn, 1) := by decide +kernel
theorem dX4_init_0 : decode cX4_init 0 = .ok (.aload_n 0, 1) := by decide +kernel
theorem dX4_init_1 : decode cX4_init 1 = .ok (.invokespecial 3, 3) := by decide +kernel
theorem dX4_init_4 : decode cX4_init 4 = .ok (.aload_n 0, 1) := by decide +kernel
theorem dX4_init_5 : decode cX4_init 5 = .ok (.bipush 20, 2) := by decide +kernel
theorem dX4_init_7 : decode cX4_init 7 = .ok (.newarray .int, 2) := by decide +kernel
theorem dX4_init_9 : decode cX4_init 9 = .ok (.putfield 9, 3) := by decide +kernel
theorem dX4_init_12 : decode cX4_init 12 = .ok (.aload_n 0, 1) := by decide +kernel
theorem dX4_init_13 : decode cX4_init 13 = .ok (.bipush 20, 2) := by decide +kernel
theorem dX4_init_15 : decode cX4_init 15 = .ok (.newarray .int, 2) := by decide +kernel
theorem dX4_init_17 : decode cX4_init 17 = .ok (.putfield 15, 3) := by decide +kernel
theorem dX4_init_20 : decode cX4_init 20 = .ok (.aload_n 0, 1) := by decide +kernel
theorem dX4_init_21 : decode cX4_init 21 = .ok (.bipush 20, 2) := by decide +kernel
theorem dX4_init_23 : decode cX4_init 23 = .ok (.newarray .int, 2) := by decide +kernel
theorem dX4_init_25 : decode cX4_init 25 = .ok (.putfield 18, 3) := by decide +kernel
theorem dX4_init_28 : decode cX4_init 28 = .ok (.aload_n 0, 1) := by decide +kernel
theorem dX4_init_29 : decode cX4_init 29 = .ok (.bipush 20, 2) := by decide +kernel
theorem dX4_init_31 : decode cX4_init 31 = .ok (.newarray .int, 2) := by decide +kernel
theorem dX4_init_33 : decode cX4_init 33 = .ok (.putfield 21, 3) := by decide +kernel
theorem dX4_init_36 : decode cX4_init 36 = .ok (.aload_n 0, 1) := by decide +kernel
theorem dX4_init_37 : decode cX4_init 37 = .ok (.bipush 20, 2) := by decide +kernel
theorem dX4_init_39 : decode cX4_init 39 = .ok (.newarray .int, 2) := by decide +kernel
theorem dX4_init_41 : decode cX4_init 41 = .ok (.putfield 24, 3) := by decide +kernel
theorem dX4_init_44 : decode cX4_init 44 = .ok (.aload_n 0, 1) := by decide +kernel
theorem dX4_init_45 : decode cX4_init 45 = .ok (.bipush 20, 2) := by decide +kernel
theorem dX4_init_47 : decode cX4_init 47 = .ok (.newarray .int, 2) := by decide +kernel
theorem dX4_init_49 : decode cX4_init 49 = .ok (.putfield 27, 3) := by decide +kernel
theorem dX4_init_52 : decode cX4_init 52 = .ok (.aload_n 0, 1) := by decide +kernel
theorem dX4_init_53 : decode cX4_init 53 = .ok (.new 30, 3) := by decide +kernel
theorem dX4_init_56 : decode cX4_init 56 = .ok (.dup, 1) := by decide +kernel
theorem dX4_init_57 : decode cX4_init 57 = .ok (.aload_n 1, 1) := by decide +kernel
theorem dX4_init_58 : decode cX4_init 58 = .ok (.invokespecial 32, 3) := by decide +kernel
theorem dX4_init_61 : decode cX4_init 61 = .ok (.putfield 35, 3) := by decide +kernel
theorem dX4_init_64 : decode cX4_init 64 = .ok (.aload_n 0, 1) := by decide +kernel
theorem dX4_init_65 : decode cX4_init 65 = .ok (.iconst (-1), 1) := by decide +kernel
theorem dX4_init_66 : decode cX4_init 66 = .ok (.putfield 39, 3) := by decide +kernel
theorem dX4_init_69 : decode cX4_init 69 = .ok (.return_, 1) := by decide +kernel
theorem dX4_lawTold_0 : decode cX4_lawTold 0 = .ok (.aload_n 0, 1) := by decide +kernel
theorem dX4_lawTold_1 : decode cX4_lawTold 1 = .ok (.getfield 43, 3) := by decide +kernel
theorem dX4_lawTold_4 : decode cX4_lawTold 4 = .ok (.ireturn, 1) := by decide +kernel
theorem dX4_handsTold_0 : decode cX4_handsTold 0 = .ok (.aload_n 0, 1) := by decide +kernel
theorem dX4_handsTold_1 : decode cX4_handsTold 1 = .ok (.getfield 46, 3) := by decide +kernel
theorem dX4_handsTold_4 : decode cX4_handsTold 4 = .ok (.ireturn, 1) := by decide +kernel
theorem dX4_linesTold_0 : decode cX4_linesTold 0 = .ok (.aload_n 0, 1) := by decide +kernel
theorem dX4_linesTold_1 : decode cX4_linesTold 1 = .ok (.getfield 49, 3) := by decide +kernel
theorem dX4_linesTold_4 : decode cX4_linesTold 4 = .ok (.ireturn, 1) := by decide +kernel
theorem dX4_versionsTold_0 : decode cX4_versionsTold 0 = .ok (.aload_n 0, 1) := by decide +kernel
theorem dX4_versionsTold_1 : decode cX4_versionsTold 1 = .ok (.getfield 52, 3) := by decide +kernel
theorem dX4_versionsTold_4 : decode cX4_versionsTold 4 = .ok (.ireturn, 1) := by decide +kernel
theorem dX4_faultFound_0 : decode cX4_faultFound 0 = .ok (.aload_n 0, 1) := by decide +kernel
theorem dX4_faultFound_1 : decode cX4_faultFound 1 = .ok (.getfield 55, 3) := by decide +kernel
theorem dX4_faultFound_4 : decode cX4_faultFound 4 = .ok (.ireturn, 1) := by decide +kernel
theorem dX4_faultPlace_0 : decode cX4_faultPlace 0 = .ok (.aload_n 0, 1) := by decide +kernel
theorem dX4_faultPlace_1 : decode cX4_faultPlace 1 = .ok (.getfield 39, 3) := by decide +kernel
theorem dX4_faultPlace_4 : decode cX4_faultPlace 4 = .ok (.ireturn, 1) := by decide +kernel
theorem dX4_howOf_0 : decode cX4_howOf 0 = .ok (.aload_n 0, 1) := by decide +kernel
theorem dX4_howOf_1 : decode cX4_howOf 1 = .ok (.getfield 9, 3) := by decide +kernel
theorem dX4_howOf_4 : decode cX4_howOf 4 = .ok (.iload_n 1, 1) := by decide +kernel
theorem dX4_howOf_5 : decode cX4_howOf 5 = .ok (.invokestatic 58, 3) := by decide +kernel
theorem dX4_howOf_8 : decode cX4_howOf 8 = .ok (.ireturn, 1) := by decide +kernel
theorem dX4_firstOf_0 : decode cX4_firstOf 0 = .ok (.aload_n 0, 1) := by decide +kernel
theorem dX4_firstOf_1 : decode cX4_firstOf 1 = .ok (.getfield 15, 3) := by decide +kernel
theorem dX4_firstOf_4 : decode cX4_firstOf 4 = .ok (.iload_n 1, 1) := by decide +kernel
theorem dX4_firstOf_5 : decode cX4_firstOf 5 = .ok (.invokestatic 58, 3) := by decide +kernel
theorem dX4_firstOf_8 : decode cX4_firstOf 8 = .ok (.ireturn, 1) := by decide +kernel
theorem dX4_secondOf_0 : decode cX4_secondOf 0 = .ok (.aload_n 0, 1) := by decide +kernel
theorem dX4_secondOf_1 : decode cX4_secondOf 1 = .ok (.getfield 18, 3) := by decide +kernel
theorem dX4_secondOf_4 : decode cX4_secondOf 4 = .ok (.iload_n 1, 1) := by decide +kernel
theorem dX4_secondOf_5 : decode cX4_secondOf 5 = .ok (.invokestatic 58, 3) := by decide +kernel
theorem dX4_secondOf_8 : decode cX4_secondOf 8 = .ok (.ireturn, 1) := by decide +kernel
theorem dX4_keyOf_0 : decode cX4_keyOf 0 = .ok (.aload_n 0, 1) := by decide +kernel
theorem dX4_keyOf_1 : decode cX4_keyOf 1 = .ok (.getfield 21, 3) := by decide +kernel
theorem dX4_keyOf_4 : decode cX4_keyOf 4 = .ok (.iload_n 1, 1) := by decide +kernel
theorem dX4_keyOf_5 : decode cX4_keyOf 5 = .ok (.invokestatic 58, 3) := by decide +kernel
theorem dX4_keyOf_8 : decode cX4_keyOf 8 = .ok (.ireturn, 1) := by decide +kernel
theorem dX4_timeOf_0 : decode cX4_timeOf 0 = .ok (.aload_n 0, 1) := by decide +kernel
theorem dX4_timeOf_1 : decode cX4_timeOf 1 = .ok (.getfield 24, 3) := by decide +kernel
theorem dX4_timeOf_4 : decode cX4_timeOf 4 = .ok (.iload_n 1, 1) := by decide +kernel
theorem dX4_timeOf_5 : decode cX4_timeOf 5 = .ok (.invokestatic 58, 3) := by decide +kernel
theorem dX4_timeOf_8 : decode cX4_timeOf 8 = .ok (.ireturn, 1) := by decide +kernel
theorem dX4_read_0 : decode cX4_read 0 = .ok (.aload_n 0, 1) := by decide +kernel
theorem dX4_read_1 : decode cX4_read 1 = .ok (.iconst 0, 1) := by decide +kernel
theorem dX4_read_2 : decode cX4_read 2 = .ok (.putfield 43, 3) := by decide +kernel
theorem dX4_read_5 : decode cX4_read 5 = .ok (.aload_n 0, 1) := by decide +kernel
theorem dX4_read_6 : decode cX4_read 6 = .ok (.iconst 0, 1) := by decide +kernel
theorem dX4_read_7 : decode cX4_read 7 = .ok (.putfield 46, 3) := by decide +kernel
theorem dX4_read_10 : decode cX4_read 10 = .ok (.aload_n 0, 1) := by decide +kernel
theorem dX4_read_11 : decode cX4_read 11 = .ok (.iconst 0, 1) := by decide +kernel
theorem dX4_read_12 : decode cX4_read 12 = .ok (.putfield 49, 3) := by decide +kernel
theorem dX4_read_15 : decode cX4_read 15 = .ok (.aload_n 0, 1) := by decide +kernel
theorem dX4_read_16 : decode cX4_read 16 = .ok (.iconst 0, 1) := by decide +kernel
theorem dX4_read_17 : decode cX4_read 17 = .ok (.putfield 52, 3) := by decide +kernel
theorem dX4_read_20 : decode cX4_read 20 = .ok (.aload_n 0, 1) := by decide +kernel
theorem dX4_read_21 : decode cX4_read 21 = .ok (.iconst 0, 1) := by decide +kernel
theorem dX4_read_22 : decode cX4_read 22 = .ok (.putfield 55, 3) := by decide +kernel
theorem dX4_read_25 : decode cX4_read 25 = .ok (.aload_n 0, 1) := by decide +kernel
theorem dX4_read_26 : decode cX4_read 26 = .ok (.iconst (-1), 1) := by decide +kernel
theorem dX4_read_27 : decode cX4_read 27 = .ok (.putfield 39, 3) := by decide +kernel
theorem dX4_read_30 : decode cX4_read 30 = .ok (.aload_n 0, 1) := by decide +kernel
theorem dX4_read_31 : decode cX4_read 31 = .ok (.getfield 35, 3) := by decide +kernel
theorem dX4_read_34 : decode cX4_read 34 = .ok (.invokevirtual 62, 3) := by decide +kernel
theorem dX4_read_37 : decode cX4_read 37 = .ok (.iconst 0, 1) := by decide +kernel
theorem dX4_read_38 : decode cX4_read 38 = .ok (.istore_n 1, 1) := by decide +kernel
theorem dX4_read_39 : decode cX4_read 39 = .ok (.iload_n 1, 1) := by decide +kernel
theorem dX4_read_40 : decode cX4_read 40 = .ok (.sipush 600, 3) := by decide +kernel
theorem dX4_read_43 : decode cX4_read 43 = .ok (.if_icmp .ge 54, 3) := by decide +kernel
theorem dX4_read_46 : decode cX4_read 46 = .ok (.aload_n 0, 1) := by decide +kernel
theorem dX4_read_47 : decode cX4_read 47 = .ok (.getfield 35, 3) := by decide +kernel
theorem dX4_read_50 : decode cX4_read 50 = .ok (.invokevirtual 65, 3) := by decide +kernel
theorem dX4_read_53 : decode cX4_read 53 = .ok (.ifCond .eq 44, 3) := by decide +kernel
theorem dX4_read_56 : decode cX4_read 56 = .ok (.aload_n 0, 1) := by decide +kernel
theorem dX4_read_57 : decode cX4_read 57 = .ok (.getfield 55, 3) := by decide +kernel
theorem dX4_read_60 : decode cX4_read 60 = .ok (.ifCond .ne 37, 3) := by decide +kernel
theorem dX4_read_63 : decode cX4_read 63 = .ok (.aload_n 0, 1) := by decide +kernel
theorem dX4_read_64 : decode cX4_read 64 = .ok (.getfield 49, 3) := by decide +kernel
theorem dX4_read_67 : decode cX4_read 67 = .ok (.ifCond .ne 10, 3) := by decide +kernel
theorem dX4_read_70 : decode cX4_read 70 = .ok (.aload_n 0, 1) := by decide +kernel
theorem dX4_read_71 : decode cX4_read 71 = .ok (.invokevirtual 69, 3) := by decide +kernel
theorem dX4_read_74 : decode cX4_read 74 = .ok (.goto 7, 3) := by decide +kernel
theorem dX4_read_77 : decode cX4_read 77 = .ok (.aload_n 0, 1) := by decide +kernel
theorem dX4_read_78 : decode cX4_read 78 = .ok (.invokevirtual 72, 3) := by decide +kernel
theorem dX4_read_81 : decode cX4_read 81 = .ok (.aload_n 0, 1) := by decide +kernel
theorem dX4_read_82 : decode cX4_read 82 = .ok (.dup, 1) := by decide +kernel
theorem dX4_read_83 : decode cX4_read 83 = .ok (.getfield 49, 3) := by decide +kernel
theorem dX4_read_86 : decode cX4_read 86 = .ok (.iconst 1, 1) := by decide +kernel
theorem dX4_read_87 : decode cX4_read 87 = .ok (.iadd, 1) := by decide +kernel
theorem dX4_read_88 : decode cX4_read 88 = .ok (.putfield 49, 3) := by decide +kernel
theorem dX4_read_91 : decode cX4_read 91 = .ok (.iinc 1 1, 3) := by decide +kernel
theorem dX4_read_94 : decode cX4_read 94 = .ok (.goto (-55), 3) := by decide +kernel
theorem dX4_read_97 : decode cX4_read 97 = .ok (.aload_n 0, 1) := by decide +kernel
theorem dX4_read_98 : decode cX4_read 98 = .ok (.getfield 55, 3) := by decide +kernel
theorem dX4_read_101 : decode cX4_read 101 = .ok (.ifCond .ne 7, 3) := by decide +kernel
theorem dX4_read_104 : decode cX4_read 104 = .ok (.iconst 1, 1) := by decide +kernel
theorem dX4_read_105 : decode cX4_read 105 = .ok (.goto 4, 3) := by decide +kernel
theorem dX4_read_108 : decode cX4_read 108 = .ok (.iconst 0, 1) := by decide +kernel
theorem dX4_read_109 : decode cX4_read 109 = .ok (.ireturn, 1) := by decide +kernel
theorem dX4_readPlan_0 : decode cX4_readPlan 0 = .ok (.aload_n 0, 1) := by decide +kernel
theorem dX4_readPlan_1 : decode cX4_readPlan 1 = .ok (.ldc 75, 2) := by decide +kernel
theorem dX4_readPlan_3 : decode cX4_readPlan 3 = .ok (.invokevirtual 77, 3) := by decide +kernel
theorem dX4_readPlan_6 : decode cX4_readPlan 6 = .ok (.aload_n 0, 1) := by decide +kernel
theorem dX4_readPlan_7 : decode cX4_readPlan 7 = .ok (.ldc 81, 2) := by decide +kernel
theorem dX4_readPlan_9 : decode cX4_readPlan 9 = .ok (.invokevirtual 77, 3) := by decide +kernel
theorem dX4_readPlan_12 : decode cX4_readPlan 12 = .ok (.aload_n 0, 1) := by decide +kernel
theorem dX4_readPlan_13 : decode cX4_readPlan 13 = .ok (.aload_n 0, 1) := by decide +kernel
theorem dX4_readPlan_14 : decode cX4_readPlan 14 = .ok (.iconst 0, 1) := by decide +kernel
theorem dX4_readPlan_15 : decode cX4_readPlan 15 = .ok (.iconst 1, 1) := by decide +kernel
theorem dX4_readPlan_16 : decode cX4_readPlan 16 = .ok (.invokevirtual 82, 3) := by decide +kernel
theorem dX4_readPlan_19 : decode cX4_readPlan 19 = .ok (.putfield 43, 3) := by decide +kernel
theorem dX4_readPlan_22 : decode cX4_readPlan 22 = .ok (.aload_n 0, 1) := by decide +kernel
theorem dX4_readPlan_23 : decode cX4_readPlan 23 = .ok (.ldc 86, 2) := by decide +kernel
theorem dX4_readPlan_25 : decode cX4_readPlan 25 = .ok (.invokevirtual 77, 3) := by decide +kernel
theorem dX4_readPlan_28 : decode cX4_readPlan 28 = .ok (.aload_n 0, 1) := by decide +kernel
theorem dX4_readPlan_29 : decode cX4_readPlan 29 = .ok (.aload_n 0, 1) := by decide +kernel
theorem dX4_readPlan_30 : decode cX4_readPlan 30 = .ok (.iconst 1, 1) := by decide +kernel
theorem dX4_readPlan_31 : decode cX4_readPlan 31 = .ok (.iconst 4, 1) := by decide +kernel
theorem dX4_readPlan_32 : decode cX4_readPlan 32 = .ok (.invokevirtual 82, 3) := by decide +kernel
theorem dX4_readPlan_35 : decode cX4_readPlan 35 = .ok (.putfield 46, 3) := by decide +kernel
theorem dX4_readPlan_38 : decode cX4_readPlan 38 = .ok (.aload_n 0, 1) := by decide +kernel
theorem dX4_readPlan_39 : decode cX4_readPlan 39 = .ok (.invokevirtual 87, 3) := by decide +kernel
theorem dX4_readPlan_42 : decode cX4_readPlan 42 = .ok (.return_, 1) := by decide +kernel
theorem dX4_readOther_0 : decode cX4_readOther 0 = .ok (.aload_n 0, 1) := by decide +kernel
theorem dX4_readOther_1 : decode cX4_readOther 1 = .ok (.invokevirtual 90, 3) := by decide +kernel
theorem dX4_readOther_4 : decode cX4_readOther 4 = .ok (.istore_n 1, 1) := by decide +kernel
theorem dX4_readOther_5 : decode cX4_readOther 5 = .ok (.iload_n 1, 1) := by decide +kernel
theorem dX4_readOther_6 : decode cX4_readOther 6 = .ok (.iconst (-1), 1) := by decide +kernel
theorem dX4_readOther_7 : decode cX4_readOther 7 = .ok (.if_icmp .ne 18, 3) := by decide +kernel
theorem dX4_readOther_10 : decode cX4_readOther 10 = .ok (.aload_n 0, 1) := by decide +kernel
theorem dX4_readOther_11 : decode cX4_readOther 11 = .ok (.iconst 1, 1) := by decide +kernel
theorem dX4_readOther_12 : decode cX4_readOther 12 = .ok (.aload_n 0, 1) := by decide +kernel
theorem dX4_readOther_13 : decode cX4_readOther 13 = .ok (.getfield 35, 3) := by decide +kernel
theorem dX4_readOther_16 : decode cX4_readOther 16 = .ok (.invokevirtual 93, 3) := by decide +kernel
theorem dX4_readOther_19 : decode cX4_readOther 19 = .ok (.invokevirtual 96, 3) := by decide +kernel
theorem dX4_readOther_22 : decode cX4_readOther 22 = .ok (.goto 87, 3) := by decide +kernel
theorem dX4_readOther_25 : decode cX4_readOther 25 = .ok (.aload_n 0, 1) := by decide +kernel
theorem dX4_readOther_26 : decode cX4_readOther 26 = .ok (.getfield 52, 3) := by decide +kernel
theorem dX4_readOther_29 : decode cX4_readOther 29 = .ok (.bipush 20, 2) := by decide +kernel
theorem dX4_readOther_31 : decode cX4_readOther 31 = .ok (.if_icmp .lt 18, 3) := by decide +kernel
theorem dX4_readOther_34 : decode cX4_readOther 34 = .ok (.aload_n 0, 1) := by decide +kernel
theorem dX4_readOther_35 : decode cX4_readOther 35 = .ok (.iconst 3, 1) := by decide +kernel
theorem dX4_readOther_36 : decode cX4_readOther 36 = .ok (.aload_n 0, 1) := by decide +kernel
theorem dX4_readOther_37 : decode cX4_readOther 37 = .ok (.getfield 35, 3) := by decide +kernel
theorem dX4_readOther_40 : decode cX4_readOther 40 = .ok (.invokevirtual 93, 3) := by decide +kernel
theorem dX4_readOther_43 : decode cX4_readOther 43 = .ok (.invokevirtual 96, 3) := by decide +kernel
theorem dX4_readOther_46 : decode cX4_readOther 46 = .ok (.goto 63, 3) := by decide +kernel
theorem dX4_readOther_49 : decode cX4_readOther 49 = .ok (.aload_n 0, 1) := by decide +kernel
theorem dX4_readOther_50 : decode cX4_readOther 50 = .ok (.getfield 35, 3) := by decide +kernel
theorem dX4_readOther_53 : decode cX4_readOther 53 = .ok (.invokevirtual 100, 3) := by decide +kernel
theorem dX4_readOther_56 : decode cX4_readOther 56 = .ok (.iload_n 1, 1) := by decide +kernel
theorem dX4_readOther_57 : decode cX4_readOther 57 = .ok (.tableswitch 48 1 3 #[27, 34, 41], 27) := by decide +kernel
theorem dX4_readOther_84 : decode cX4_readOther 84 = .ok (.aload_n 0, 1) := by decide +kernel
theorem dX4_readOther_85 : decode cX4_readOther 85 = .ok (.invokevirtual 103, 3) := by decide +kernel
theorem dX4_readOther_88 : decode cX4_readOther 88 = .ok (.goto 21, 3) := by decide +kernel
theorem dX4_readOther_91 : decode cX4_readOther 91 = .ok (.aload_n 0, 1) := by decide +kernel
theorem dX4_readOther_92 : decode cX4_readOther 92 = .ok (.invokevirtual 106, 3) := by decide +kernel
theorem dX4_readOther_95 : decode cX4_readOther 95 = .ok (.goto 14, 3) := by decide +kernel
theorem dX4_readOther_98 : decode cX4_readOther 98 = .ok (.aload_n 0, 1) := by decide +kernel
theorem dX4_readOther_99 : decode cX4_readOther 99 = .ok (.invokevirtual 109, 3) := by decide +kernel
theorem dX4_readOther_102 : decode cX4_readOther 102 = .ok (.goto 7, 3) := by decide +kernel
theorem dX4_readOther_105 : decode cX4_readOther 105 = .ok (.aload_n 0, 1) := by decide +kernel
theorem dX4_readOther_106 : decode cX4_readOther 106 = .ok (.invokevirtual 112, 3) := by decide +kernel
theorem dX4_readOther_109 : decode cX4_readOther 109 = .ok (.return_, 1) := by decide +kernel
theorem dX4_howOfWord_0 : decode cX4_howOfWord 0 = .ok (.aload_n 0, 1) := by decide +kernel
theorem dX4_howOfWord_1 : decode cX4_howOfWord 1 = .ok (.getfield 35, 3) := by decide +kernel
theorem dX4_howOfWord_4 : decode cX4_howOfWord 4 = .ok (.ldc 115, 2) := by decide +kernel
theorem dX4_howOfWord_6 : decode cX4_howOfWord 6 = .ok (.invokevirtual 117, 3) := by decide +kernel
theorem dX4_howOfWord_9 : decode cX4_howOfWord 9 = .ok (.ifCond .eq 5, 3) := by decide +kernel
theorem dX4_howOfWord_12 : decode cX4_howOfWord 12 = .ok (.iconst 0, 1) := by decide +kernel
theorem dX4_howOfWord_13 : decode cX4_howOfWord 13 = .ok (.ireturn, 1) := by decide +kernel
theorem dX4_howOfWord_14 : decode cX4_howOfWord 14 = .ok (.aload_n 0, 1) := by decide +kernel
theorem dX4_howOfWord_15 : decode cX4_howOfWord 15 = .ok (.getfield 35, 3) := by decide +kernel
theorem dX4_howOfWord_18 : decode cX4_howOfWord 18 = .ok (.ldc 121, 2) := by decide +kernel
theorem dX4_howOfWord_20 : decode cX4_howOfWord 20 = .ok (.invokevirtual 117, 3) := by decide +kernel
theorem dX4_howOfWord_23 : decode cX4_howOfWord 23 = .ok (.ifCond .eq 5, 3) := by decide +kernel
theorem dX4_howOfWord_26 : decode cX4_howOfWord 26 = .ok (.iconst 1, 1) := by decide +kernel
theorem dX4_howOfWord_27 : decode cX4_howOfWord 27 = .ok (.ireturn, 1) := by decide +kernel
theorem dX4_howOfWord_28 : decode cX4_howOfWord 28 = .ok (.aload_n 0, 1) := by decide +kernel
theorem dX4_howOfWord_29 : decode cX4_howOfWord 29 = .ok (.getfield 35, 3) := by decide +kernel
theorem dX4_howOfWord_32 : decode cX4_howOfWord 32 = .ok (.ldc 123, 2) := by decide +kernel
theorem dX4_howOfWord_34 : decode cX4_howOfWord 34 = .ok (.invokevirtual 117, 3) := by decide +kernel
theorem dX4_howOfWord_37 : decode cX4_howOfWord 37 = .ok (.ifCond .eq 5, 3) := by decide +kernel
theorem dX4_howOfWord_40 : decode cX4_howOfWord 40 = .ok (.iconst 2, 1) := by decide +kernel
theorem dX4_howOfWord_41 : decode cX4_howOfWord 41 = .ok (.ireturn, 1) := by decide +kernel
theorem dX4_howOfWord_42 : decode cX4_howOfWord 42 = .ok (.aload_n 0, 1) := by decide +kernel
theorem dX4_howOfWord_43 : decode cX4_howOfWord 43 = .ok (.getfield 35, 3) := by decide +kernel
theorem dX4_howOfWord_46 : decode cX4_howOfWord 46 = .ok (.ldc 125, 2) := by decide +kernel
theorem dX4_howOfWord_48 : decode cX4_howOfWord 48 = .ok (.invokevirtual 117, 3) := by decide +kernel
theorem dX4_howOfWord_51 : decode cX4_howOfWord 51 = .ok (.ifCond .eq 7, 3) := by decide +kernel
theorem dX4_howOfWord_54 : decode cX4_howOfWord 54 = .ok (.iconst 3, 1) := by decide +kernel
theorem dX4_howOfWord_55 : decode cX4_howOfWord 55 = .ok (.goto 4, 3) := by decide +kernel
theorem dX4_howOfWord_58 : decode cX4_howOfWord 58 = .ok (.iconst (-1), 1) := by decide +kernel
theorem dX4_howOfWord_59 : decode cX4_howOfWord 59 = .ok (.ireturn, 1) := by decide +kernel
theorem dX4_readNew_0 : decode cX4_readNew 0 = .ok (.aload_n 0, 1) := by decide +kernel
theorem dX4_readNew_1 : decode cX4_readNew 1 = .ok (.invokevirtual 87, 3) := by decide +kernel
theorem dX4_readNew_4 : decode cX4_readNew 4 = .ok (.aload_n 0, 1) := by decide +kernel
theorem dX4_readNew_5 : decode cX4_readNew 5 = .ok (.iconst 0, 1) := by decide +kernel
theorem dX4_readNew_6 : decode cX4_readNew 6 = .ok (.iconst (-1), 1) := by decide +kernel
theorem dX4_readNew_7 : decode cX4_readNew 7 = .ok (.iconst (-1), 1) := by decide +kernel
theorem dX4_readNew_8 : decode cX4_readNew 8 = .ok (.iconst 0, 1) := by decide +kernel
theorem dX4_readNew_9 : decode cX4_readNew 9 = .ok (.invokevirtual 127, 3) := by decide +kernel
theorem dX4_readNew_12 : decode cX4_readNew 12 = .ok (.return_, 1) := by decide +kernel
theorem dX4_readPut_0 : decode cX4_readPut 0 = .ok (.aload_n 0, 1) := by decide +kernel
theorem dX4_readPut_1 : decode cX4_readPut 1 = .ok (.iconst 0, 1) := by decide +kernel
theorem dX4_readPut_2 : decode cX4_readPut 2 = .ok (.aload_n 0, 1) := by decide +kernel
theorem dX4_readPut_3 : decode cX4_readPut 3 = .ok (.getfield 52, 3) := by decide +kernel
theorem dX4_readPut_6 : decode cX4_readPut 6 = .ok (.iconst 1, 1) := by decide +kernel
theorem dX4_readPut_7 : decode cX4_readPut 7 = .ok (.isub, 1) := by decide +kernel
theorem dX4_readPut_8 : decode cX4_readPut 8 = .ok (.invokevirtual 82, 3) := by decide +kernel
theorem dX4_readPut_11 : decode cX4_readPut 11 = .ok (.istore_n 1, 1) := by decide +kernel
theorem dX4_readPut_12 : decode cX4_readPut 12 = .ok (.aload_n 0, 1) := by decide +kernel
theorem dX4_readPut_13 : decode cX4_readPut 13 = .ok (.getfield 27, 3) := by decide +kernel
theorem dX4_readPut_16 : decode cX4_readPut 16 = .ok (.iload_n 1, 1) := by decide +kernel
theorem dX4_readPut_17 : decode cX4_readPut 17 = .ok (.invokestatic 58, 3) := by decide +kernel
theorem dX4_readPut_20 : decode cX4_readPut 20 = .ok (.bipush 24, 2) := by decide +kernel
theorem dX4_readPut_22 : decode cX4_readPut 22 = .ok (.if_icmp .lt 12, 3) := by decide +kernel
theorem dX4_readPut_25 : decode cX4_readPut 25 = .ok (.aload_n 0, 1) := by decide +kernel
theorem dX4_readPut_26 : decode cX4_readPut 26 = .ok (.iconst 2, 1) := by decide +kernel
theorem dX4_readPut_27 : decode cX4_readPut 27 = .ok (.aload_n 0, 1) := by decide +kernel
theorem dX4_readPut_28 : decode cX4_readPut 28 = .ok (.getfield 131, 3) := by decide +kernel
theorem dX4_readPut_31 : decode cX4_readPut 31 = .ok (.invokevirtual 96, 3) := by decide +kernel
theorem dX4_readPut_34 : decode cX4_readPut 34 = .ok (.aload_n 0, 1) := by decide +kernel
theorem dX4_readPut_35 : decode cX4_readPut 35 = .ok (.iconst 0, 1) := by decide +kernel
theorem dX4_readPut_36 : decode cX4_readPut 36 = .ok (.sipush 999, 3) := by decide +kernel
theorem dX4_readPut_39 : decode cX4_readPut 39 = .ok (.invokevirtual 82, 3) := by decide +kernel
theorem dX4_readPut_42 : decode cX4_readPut 42 = .ok (.istore_n 2, 1) := by decide +kernel
theorem dX4_readPut_43 : decode cX4_readPut 43 = .ok (.aload_n 0, 1) := by decide +kernel
theorem dX4_readPut_44 : decode cX4_readPut 44 = .ok (.ldc 134, 2) := by decide +kernel
theorem dX4_readPut_46 : decode cX4_readPut 46 = .ok (.invokevirtual 77, 3) := by decide +kernel
theorem dX4_readPut_49 : decode cX4_readPut 49 = .ok (.aload_n 0, 1) := by decide +kernel
theorem dX4_readPut_50 : decode cX4_readPut 50 = .ok (.iconst 1, 1) := by decide +kernel
theorem dX4_readPut_51 : decode cX4_readPut 51 = .ok (.bipush 99, 2) := by decide +kernel
theorem dX4_readPut_53 : decode cX4_readPut 53 = .ok (.invokevirtual 82, 3) := by decide +kernel
theorem dX4_readPut_56 : decode cX4_readPut 56 = .ok (.istore_n 3, 1) := by decide +kernel
theorem dX4_readPut_57 : decode cX4_readPut 57 = .ok (.aload_n 0, 1) := by decide +kernel
theorem dX4_readPut_58 : decode cX4_readPut 58 = .ok (.invokevirtual 87, 3) := by decide +kernel
theorem dX4_readPut_61 : decode cX4_readPut 61 = .ok (.aload_n 0, 1) := by decide +kernel
theorem dX4_readPut_62 : decode cX4_readPut 62 = .ok (.getfield 21, 3) := by decide +kernel
theorem dX4_readPut_65 : decode cX4_readPut 65 = .ok (.aload_n 0, 1) := by decide +kernel
theorem dX4_readPut_66 : decode cX4_readPut 66 = .ok (.getfield 52, 3) := by decide +kernel
theorem dX4_readPut_69 : decode cX4_readPut 69 = .ok (.iload_n 2, 1) := by decide +kernel
theorem dX4_readPut_70 : decode cX4_readPut 70 = .ok (.invokestatic 136, 3) := by decide +kernel
theorem dX4_readPut_73 : decode cX4_readPut 73 = .ok (.aload_n 0, 1) := by decide +kernel
theorem dX4_readPut_74 : decode cX4_readPut 74 = .ok (.getfield 24, 3) := by decide +kernel
theorem dX4_readPut_77 : decode cX4_readPut 77 = .ok (.aload_n 0, 1) := by decide +kernel
theorem dX4_readPut_78 : decode cX4_readPut 78 = .ok (.getfield 52, 3) := by decide +kernel
theorem dX4_readPut_81 : decode cX4_readPut 81 = .ok (.iload_n 3, 1) := by decide +kernel
theorem dX4_readPut_82 : decode cX4_readPut 82 = .ok (.invokestatic 136, 3) := by decide +kernel
theorem dX4_readPut_85 : decode cX4_readPut 85 = .ok (.aload_n 0, 1) := by decide +kernel
theorem dX4_readPut_86 : decode cX4_readPut 86 = .ok (.iconst 1, 1) := by decide +kernel
theorem dX4_readPut_87 : decode cX4_readPut 87 = .ok (.iload_n 1, 1) := by decide +kernel
theorem dX4_readPut_88 : decode cX4_readPut 88 = .ok (.iconst (-1), 1) := by decide +kernel
theorem dX4_readPut_89 : decode cX4_readPut 89 = .ok (.aload_n 0, 1) := by decide +kernel
theorem dX4_readPut_90 : decode cX4_readPut 90 = .ok (.getfield 27, 3) := by decide +kernel
theorem dX4_readPut_93 : decode cX4_readPut 93 = .ok (.iload_n 1, 1) := by decide +kernel
theorem dX4_readPut_94 : decode cX4_readPut 94 = .ok (.invokestatic 58, 3) := by decide +kernel
theorem dX4_readPut_97 : decode cX4_readPut 97 = .ok (.iconst 1, 1) := by decide +kernel
theorem dX4_readPut_98 : decode cX4_readPut 98 = .ok (.iadd, 1) := by decide +kernel
theorem dX4_readPut_99 : decode cX4_readPut 99 = .ok (.invokevirtual 127, 3) := by decide +kernel
theorem dX4_readPut_102 : decode cX4_readPut 102 = .ok (.return_, 1) := by decide +kernel
theorem dX4_readJoin_0 : decode cX4_readJoin 0 = .ok (.aload_n 0, 1) := by decide +kernel
theorem dX4_readJoin_1 : decode cX4_readJoin 1 = .ok (.iconst 0, 1) := by decide +kernel
theorem dX4_readJoin_2 : decode cX4_readJoin 2 = .ok (.aload_n 0, 1) := by decide +kernel
theorem dX4_readJoin_3 : decode cX4_readJoin 3 = .ok (.getfield 52, 3) := by decide +kernel
theorem dX4_readJoin_6 : decode cX4_readJoin 6 = .ok (.iconst 1, 1) := by decide +kernel
theorem dX4_readJoin_7 : decode cX4_readJoin 7 = .ok (.isub, 1) := by decide +kernel
theorem dX4_readJoin_8 : decode cX4_readJoin 8 = .ok (.invokevirtual 82, 3) := by decide +kernel
theorem dX4_readJoin_11 : decode cX4_readJoin 11 = .ok (.istore_n 1, 1) := by decide +kernel
theorem dX4_readJoin_12 : decode cX4_readJoin 12 = .ok (.aload_n 0, 1) := by decide +kernel
theorem dX4_readJoin_13 : decode cX4_readJoin 13 = .ok (.iconst 0, 1) := by decide +kernel
theorem dX4_readJoin_14 : decode cX4_readJoin 14 = .ok (.aload_n 0, 1) := by decide +kernel
theorem dX4_readJoin_15 : decode cX4_readJoin 15 = .ok (.getfield 52, 3) := by decide +kernel
theorem dX4_readJoin_18 : decode cX4_readJoin 18 = .ok (.iconst 1, 1) := by decide +kernel
theorem dX4_readJoin_19 : decode cX4_readJoin 19 = .ok (.isub, 1) := by decide +kernel
theorem dX4_readJoin_20 : decode cX4_readJoin 20 = .ok (.invokevirtual 82, 3) := by decide +kernel
theorem dX4_readJoin_23 : decode cX4_readJoin 23 = .ok (.istore_n 2, 1) := by decide +kernel
theorem dX4_readJoin_24 : decode cX4_readJoin 24 = .ok (.aload_n 0, 1) := by decide +kernel
theorem dX4_readJoin_25 : decode cX4_readJoin 25 = .ok (.getfield 27, 3) := by decide +kernel
theorem dX4_readJoin_28 : decode cX4_readJoin 28 = .ok (.iload_n 1, 1) := by decide +kernel
theorem dX4_readJoin_29 : decode cX4_readJoin 29 = .ok (.invokestatic 58, 3) := by decide +kernel
theorem dX4_readJoin_32 : decode cX4_readJoin 32 = .ok (.aload_n 0, 1) := by decide +kernel
theorem dX4_readJoin_33 : decode cX4_readJoin 33 = .ok (.getfield 27, 3) := by decide +kernel
theorem dX4_readJoin_36 : decode cX4_readJoin 36 = .ok (.iload_n 2, 1) := by decide +kernel
theorem dX4_readJoin_37 : decode cX4_readJoin 37 = .ok (.invokestatic 58, 3) := by decide +kernel
theorem dX4_readJoin_40 : decode cX4_readJoin 40 = .ok (.iadd, 1) := by decide +kernel
theorem dX4_readJoin_41 : decode cX4_readJoin 41 = .ok (.istore_n 3, 1) := by decide +kernel
theorem dX4_readJoin_42 : decode cX4_readJoin 42 = .ok (.iload_n 3, 1) := by decide +kernel
theorem dX4_readJoin_43 : decode cX4_readJoin 43 = .ok (.bipush 24, 2) := by decide +kernel
theorem dX4_readJoin_45 : decode cX4_readJoin 45 = .ok (.if_icmp .le 12, 3) := by decide +kernel
theorem dX4_readJoin_48 : decode cX4_readJoin 48 = .ok (.aload_n 0, 1) := by decide +kernel
theorem dX4_readJoin_49 : decode cX4_readJoin 49 = .ok (.iconst 2, 1) := by decide +kernel
theorem dX4_readJoin_50 : decode cX4_readJoin 50 = .ok (.aload_n 0, 1) := by decide +kernel
theorem dX4_readJoin_51 : decode cX4_readJoin 51 = .ok (.getfield 131, 3) := by decide +kernel
theorem dX4_readJoin_54 : decode cX4_readJoin 54 = .ok (.invokevirtual 96, 3) := by decide +kernel
theorem dX4_readJoin_57 : decode cX4_readJoin 57 = .ok (.aload_n 0, 1) := by decide +kernel
theorem dX4_readJoin_58 : decode cX4_readJoin 58 = .ok (.invokevirtual 87, 3) := by decide +kernel
theorem dX4_readJoin_61 : decode cX4_readJoin 61 = .ok (.aload_n 0, 1) := by decide +kernel
theorem dX4_readJoin_62 : decode cX4_readJoin 62 = .ok (.iconst 2, 1) := by decide +kernel
theorem dX4_readJoin_63 : decode cX4_readJoin 63 = .ok (.iload_n 1, 1) := by decide +kernel
theorem dX4_readJoin_64 : decode cX4_readJoin 64 = .ok (.iload_n 2, 1) := by decide +kernel
theorem dX4_readJoin_65 : decode cX4_readJoin 65 = .ok (.iload_n 3, 1) := by decide +kernel
theorem dX4_readJoin_66 : decode cX4_readJoin 66 = .ok (.invokevirtual 127, 3) := by decide +kernel
theorem dX4_readJoin_69 : decode cX4_readJoin 69 = .ok (.return_, 1) := by decide +kernel
theorem dX4_readTake_0 : decode cX4_readTake 0 = .ok (.aload_n 0, 1) := by decide +kernel
theorem dX4_readTake_1 : decode cX4_readTake 1 = .ok (.iconst 0, 1) := by decide +kernel
theorem dX4_readTake_2 : decode cX4_readTake 2 = .ok (.aload_n 0, 1) := by decide +kernel
theorem dX4_readTake_3 : decode cX4_readTake 3 = .ok (.getfield 52, 3) := by decide +kernel
theorem dX4_readTake_6 : decode cX4_readTake 6 = .ok (.iconst 1, 1) := by decide +kernel
theorem dX4_readTake_7 : decode cX4_readTake 7 = .ok (.isub, 1) := by decide +kernel
theorem dX4_readTake_8 : decode cX4_readTake 8 = .ok (.invokevirtual 82, 3) := by decide +kernel
theorem dX4_readTake_11 : decode cX4_readTake 11 = .ok (.istore_n 1, 1) := by decide +kernel
theorem dX4_readTake_12 : decode cX4_readTake 12 = .ok (.aload_n 0, 1) := by decide +kernel
theorem dX4_readTake_13 : decode cX4_readTake 13 = .ok (.getfield 27, 3) := by decide +kernel
theorem dX4_readTake_16 : decode cX4_readTake 16 = .ok (.iload_n 1, 1) := by decide +kernel
theorem dX4_readTake_17 : decode cX4_readTake 17 = .ok (.invokestatic 58, 3) := by decide +kernel
theorem dX4_readTake_20 : decode cX4_readTake 20 = .ok (.ifCond .ne 12, 3) := by decide +kernel
theorem dX4_readTake_23 : decode cX4_readTake 23 = .ok (.aload_n 0, 1) := by decide +kernel
theorem dX4_readTake_24 : decode cX4_readTake 24 = .ok (.iconst 2, 1) := by decide +kernel
theorem dX4_readTake_25 : decode cX4_readTake 25 = .ok (.aload_n 0, 1) := by decide +kernel
theorem dX4_readTake_26 : decode cX4_readTake 26 = .ok (.getfield 131, 3) := by decide +kernel
theorem dX4_readTake_29 : decode cX4_readTake 29 = .ok (.invokevirtual 96, 3) := by decide +kernel
theorem dX4_readTake_32 : decode cX4_readTake 32 = .ok (.aload_n 0, 1) := by decide +kernel
theorem dX4_readTake_33 : decode cX4_readTake 33 = .ok (.invokevirtual 87, 3) := by decide +kernel
theorem dX4_readTake_36 : decode cX4_readTake 36 = .ok (.aload_n 0, 1) := by decide +kernel
theorem dX4_readTake_37 : decode cX4_readTake 37 = .ok (.iconst 3, 1) := by decide +kernel
theorem dX4_readTake_38 : decode cX4_readTake 38 = .ok (.iload_n 1, 1) := by decide +kernel
theorem dX4_readTake_39 : decode cX4_readTake 39 = .ok (.iconst (-1), 1) := by decide +kernel
theorem dX4_readTake_40 : decode cX4_readTake 40 = .ok (.aload_n 0, 1) := by decide +kernel
theorem dX4_readTake_41 : decode cX4_readTake 41 = .ok (.getfield 27, 3) := by decide +kernel
theorem dX4_readTake_44 : decode cX4_readTake 44 = .ok (.iload_n 1, 1) := by decide +kernel
theorem dX4_readTake_45 : decode cX4_readTake 45 = .ok (.invokestatic 58, 3) := by decide +kernel
theorem dX4_readTake_48 : decode cX4_readTake 48 = .ok (.iconst 1, 1) := by decide +kernel
theorem dX4_readTake_49 : decode cX4_readTake 49 = .ok (.isub, 1) := by decide +kernel
theorem dX4_readTake_50 : decode cX4_readTake 50 = .ok (.invokevirtual 127, 3) := by decide +kernel
theorem dX4_readTake_53 : decode cX4_readTake 53 = .ok (.return_, 1) := by decide +kernel
theorem dX4_keep_0 : decode cX4_keep 0 = .ok (.aload_n 0, 1) := by decide +kernel
theorem dX4_keep_1 : decode cX4_keep 1 = .ok (.getfield 9, 3) := by decide +kernel
theorem dX4_keep_4 : decode cX4_keep 4 = .ok (.aload_n 0, 1) := by decide +kernel
theorem dX4_keep_5 : decode cX4_keep 5 = .ok (.getfield 52, 3) := by decide +kernel
theorem dX4_keep_8 : decode cX4_keep 8 = .ok (.iload_n 1, 1) := by decide +kernel
theorem dX4_keep_9 : decode cX4_keep 9 = .ok (.invokestatic 136, 3) := by decide +kernel
theorem dX4_keep_12 : decode cX4_keep 12 = .ok (.aload_n 0, 1) := by decide +kernel
theorem dX4_keep_13 : decode cX4_keep 13 = .ok (.getfield 15, 3) := by decide +kernel
theorem dX4_keep_16 : decode cX4_keep 16 = .ok (.aload_n 0, 1) := by decide +kernel
theorem dX4_keep_17 : decode cX4_keep 17 = .ok (.getfield 52, 3) := by decide +kernel
theorem dX4_keep_20 : decode cX4_keep 20 = .ok (.iload_n 2, 1) := by decide +kernel
theorem dX4_keep_21 : decode cX4_keep 21 = .ok (.invokestatic 136, 3) := by decide +kernel
theorem dX4_keep_24 : decode cX4_keep 24 = .ok (.aload_n 0, 1) := by decide +kernel
theorem dX4_keep_25 : decode cX4_keep 25 = .ok (.getfield 18, 3) := by decide +kernel
theorem dX4_keep_28 : decode cX4_keep 28 = .ok (.aload_n 0, 1) := by decide +kernel
theorem dX4_keep_29 : decode cX4_keep 29 = .ok (.getfield 52, 3) := by decide +kernel
theorem dX4_keep_32 : decode cX4_keep 32 = .ok (.iload_n 3, 1) := by decide +kernel
theorem dX4_keep_33 : decode cX4_keep 33 = .ok (.invokestatic 136, 3) := by decide +kernel
theorem dX4_keep_36 : decode cX4_keep 36 = .ok (.aload_n 0, 1) := by decide +kernel
theorem dX4_keep_37 : decode cX4_keep 37 = .ok (.getfield 27, 3) := by decide +kernel
theorem dX4_keep_40 : decode cX4_keep 40 = .ok (.aload_n 0, 1) := by decide +kernel
theorem dX4_keep_41 : decode cX4_keep 41 = .ok (.getfield 52, 3) := by decide +kernel
theorem dX4_keep_44 : decode cX4_keep 44 = .ok (.iload 4, 2) := by decide +kernel
theorem dX4_keep_46 : decode cX4_keep 46 = .ok (.invokestatic 136, 3) := by decide +kernel
theorem dX4_keep_49 : decode cX4_keep 49 = .ok (.aload_n 0, 1) := by decide +kernel
theorem dX4_keep_50 : decode cX4_keep 50 = .ok (.dup, 1) := by decide +kernel
theorem dX4_keep_51 : decode cX4_keep 51 = .ok (.getfield 52, 3) := by decide +kernel
theorem dX4_keep_54 : decode cX4_keep 54 = .ok (.iconst 1, 1) := by decide +kernel
theorem dX4_keep_55 : decode cX4_keep 55 = .ok (.iadd, 1) := by decide +kernel
theorem dX4_keep_56 : decode cX4_keep 56 = .ok (.putfield 52, 3) := by decide +kernel
theorem dX4_keep_59 : decode cX4_keep 59 = .ok (.return_, 1) := by decide +kernel
theorem dX4_passWord_0 : decode cX4_passWord 0 = .ok (.aload_n 0, 1) := by decide +kernel
theorem dX4_passWord_1 : decode cX4_passWord 1 = .ok (.getfield 35, 3) := by decide +kernel
theorem dX4_passWord_4 : decode cX4_passWord 4 = .ok (.aload_n 1, 1) := by decide +kernel
theorem dX4_passWord_5 : decode cX4_passWord 5 = .ok (.invokevirtual 117, 3) := by decide +kernel
theorem dX4_passWord_8 : decode cX4_passWord 8 = .ok (.ifCond .ne 15, 3) := by decide +kernel
theorem dX4_passWord_11 : decode cX4_passWord 11 = .ok (.aload_n 0, 1) := by decide +kernel
theorem dX4_passWord_12 : decode cX4_passWord 12 = .ok (.iconst 1, 1) := by decide +kernel
theorem dX4_passWord_13 : decode cX4_passWord 13 = .ok (.aload_n 0, 1) := by decide +kernel
theorem dX4_passWord_14 : decode cX4_passWord 14 = .ok (.getfield 35, 3) := by decide +kernel
theorem dX4_passWord_17 : decode cX4_passWord 17 = .ok (.invokevirtual 93, 3) := by decide +kernel
theorem dX4_passWord_20 : decode cX4_passWord 20 = .ok (.invokevirtual 96, 3) := by decide +kernel
theorem dX4_passWord_23 : decode cX4_passWord 23 = .ok (.aload_n 0, 1) := by decide +kernel
theorem dX4_passWord_24 : decode cX4_passWord 24 = .ok (.getfield 35, 3) := by decide +kernel
theorem dX4_passWord_27 : decode cX4_passWord 27 = .ok (.invokevirtual 100, 3) := by decide +kernel
theorem dX4_passWord_30 : decode cX4_passWord 30 = .ok (.return_, 1) := by decide +kernel
theorem dX4_passNumber_0 : decode cX4_passNumber 0 = .ok (.aload_n 0, 1) := by decide +kernel
theorem dX4_passNumber_1 : decode cX4_passNumber 1 = .ok (.aload_n 0, 1) := by decide +kernel
theorem dX4_passNumber_2 : decode cX4_passNumber 2 = .ok (.getfield 35, 3) := by decide +kernel
theorem dX4_passNumber_5 : decode cX4_passNumber 5 = .ok (.invokevirtual 93, 3) := by decide +kernel
theorem dX4_passNumber_8 : decode cX4_passNumber 8 = .ok (.putfield 131, 3) := by decide +kernel
theorem dX4_passNumber_11 : decode cX4_passNumber 11 = .ok (.aload_n 0, 1) := by decide +kernel
theorem dX4_passNumber_12 : decode cX4_passNumber 12 = .ok (.getfield 35, 3) := by decide +kernel
theorem dX4_passNumber_15 : decode cX4_passNumber 15 = .ok (.invokevirtual 65, 3) := by decide +kernel
theorem dX4_passNumber_18 : decode cX4_passNumber 18 = .ok (.iconst 2, 1) := by decide +kernel
theorem dX4_passNumber_19 : decode cX4_passNumber 19 = .ok (.if_icmp .eq 14, 3) := by decide +kernel
theorem dX4_passNumber_22 : decode cX4_passNumber 22 = .ok (.aload_n 0, 1) := by decide +kernel
theorem dX4_passNumber_23 : decode cX4_passNumber 23 = .ok (.iconst 1, 1) := by decide +kernel
theorem dX4_passNumber_24 : decode cX4_passNumber 24 = .ok (.aload_n 0, 1) := by decide +kernel
theorem dX4_passNumber_25 : decode cX4_passNumber 25 = .ok (.getfield 131, 3) := by decide +kernel
theorem dX4_passNumber_28 : decode cX4_passNumber 28 = .ok (.invokevirtual 96, 3) := by decide +kernel
theorem dX4_passNumber_31 : decode cX4_passNumber 31 = .ok (.iconst (-1), 1) := by decide +kernel
theorem dX4_passNumber_32 : decode cX4_passNumber 32 = .ok (.ireturn, 1) := by decide +kernel
theorem dX4_passNumber_33 : decode cX4_passNumber 33 = .ok (.aload_n 0, 1) := by decide +kernel
theorem dX4_passNumber_34 : decode cX4_passNumber 34 = .ok (.getfield 35, 3) := by decide +kernel
theorem dX4_passNumber_37 : decode cX4_passNumber 37 = .ok (.invokevirtual 140, 3) := by decide +kernel
theorem dX4_passNumber_40 : decode cX4_passNumber 40 = .ok (.istore_n 3, 1) := by decide +kernel
theorem dX4_passNumber_41 : decode cX4_passNumber 41 = .ok (.iload_n 3, 1) := by decide +kernel
theorem dX4_passNumber_42 : decode cX4_passNumber 42 = .ok (.iload_n 1, 1) := by decide +kernel
theorem dX4_passNumber_43 : decode cX4_passNumber 43 = .ok (.if_icmp .lt 8, 3) := by decide +kernel
theorem dX4_passNumber_46 : decode cX4_passNumber 46 = .ok (.iload_n 3, 1) := by decide +kernel
theorem dX4_passNumber_47 : decode cX4_passNumber 47 = .ok (.iload_n 2, 1) := by decide +kernel
theorem dX4_passNumber_48 : decode cX4_passNumber 48 = .ok (.if_icmp .le 12, 3) := by decide +kernel
theorem dX4_passNumber_51 : decode cX4_passNumber 51 = .ok (.aload_n 0, 1) := by decide +kernel
theorem dX4_passNumber_52 : decode cX4_passNumber 52 = .ok (.iconst 2, 1) := by decide +kernel
theorem dX4_passNumber_53 : decode cX4_passNumber 53 = .ok (.aload_n 0, 1) := by decide +kernel
theorem dX4_passNumber_54 : decode cX4_passNumber 54 = .ok (.getfield 131, 3) := by decide +kernel
theorem dX4_passNumber_57 : decode cX4_passNumber 57 = .ok (.invokevirtual 96, 3) := by decide +kernel
theorem dX4_passNumber_60 : decode cX4_passNumber 60 = .ok (.aload_n 0, 1) := by decide +kernel
theorem dX4_passNumber_61 : decode cX4_passNumber 61 = .ok (.getfield 35, 3) := by decide +kernel
theorem dX4_passNumber_64 : decode cX4_passNumber 64 = .ok (.invokevirtual 100, 3) := by decide +kernel
theorem dX4_passNumber_67 : decode cX4_passNumber 67 = .ok (.iload_n 3, 1) := by decide +kernel
theorem dX4_passNumber_68 : decode cX4_passNumber 68 = .ok (.ireturn, 1) := by decide +kernel
theorem dX4_passSign_0 : decode cX4_passSign 0 = .ok (.aload_n 0, 1) := by decide +kernel
theorem dX4_passSign_1 : decode cX4_passSign 1 = .ok (.getfield 35, 3) := by decide +kernel
theorem dX4_passSign_4 : decode cX4_passSign 4 = .ok (.invokevirtual 65, 3) := by decide +kernel
theorem dX4_passSign_7 : decode cX4_passSign 7 = .ok (.iconst 3, 1) := by decide +kernel
theorem dX4_passSign_8 : decode cX4_passSign 8 = .ok (.if_icmp .eq 15, 3) := by decide +kernel
theorem dX4_passSign_11 : decode cX4_passSign 11 = .ok (.aload_n 0, 1) := by decide +kernel
theorem dX4_passSign_12 : decode cX4_passSign 12 = .ok (.iconst 1, 1) := by decide +kernel
theorem dX4_passSign_13 : decode cX4_passSign 13 = .ok (.aload_n 0, 1) := by decide +kernel
theorem dX4_passSign_14 : decode cX4_passSign 14 = .ok (.getfield 35, 3) := by decide +kernel
theorem dX4_passSign_17 : decode cX4_passSign 17 = .ok (.invokevirtual 93, 3) := by decide +kernel
theorem dX4_passSign_20 : decode cX4_passSign 20 = .ok (.invokevirtual 96, 3) := by decide +kernel
theorem dX4_passSign_23 : decode cX4_passSign 23 = .ok (.aload_n 0, 1) := by decide +kernel
theorem dX4_passSign_24 : decode cX4_passSign 24 = .ok (.getfield 35, 3) := by decide +kernel
theorem dX4_passSign_27 : decode cX4_passSign 27 = .ok (.invokevirtual 100, 3) := by decide +kernel
theorem dX4_passSign_30 : decode cX4_passSign 30 = .ok (.return_, 1) := by decide +kernel
theorem dX4_blame_0 : decode cX4_blame 0 = .ok (.aload_n 0, 1) := by decide +kernel
theorem dX4_blame_1 : decode cX4_blame 1 = .ok (.getfield 55, 3) := by decide +kernel
theorem dX4_blame_4 : decode cX4_blame 4 = .ok (.ifCond .ne 13, 3) := by decide +kernel
theorem dX4_blame_7 : decode cX4_blame 7 = .ok (.aload_n 0, 1) := by decide +kernel
theorem dX4_blame_8 : decode cX4_blame 8 = .ok (.iload_n 1, 1) := by decide +kernel
theorem dX4_blame_9 : decode cX4_blame 9 = .ok (.putfield 55, 3) := by decide +kernel
theorem dX4_blame_12 : decode cX4_blame 12 = .ok (.aload_n 0, 1) := by decide +kernel
theorem dX4_blame_13 : decode cX4_blame 13 = .ok (.iload_n 2, 1) := by decide +kernel
theorem dX4_blame_14 : decode cX4_blame 14 = .ok (.putfield 39, 3) := by decide +kernel
theorem dX4_blame_17 : decode cX4_blame 17 = .ok (.return_, 1) := by decide +kernel
theorem dX5_init_0 : decode cX5_init 0 = .ok (.aload_n 0, 1) := by decide +kernel
theorem dX5_init_1 : decode cX5_init 1 = .ok (.invokespecial 3, 3) := by decide +kernel
theorem dX5_init_4 : decode cX5_init 4 = .ok (.aload_n 0, 1) := by decide +kernel
theorem dX5_init_5 : decode cX5_init 5 = .ok (.bipush 8, 2) := by decide +kernel
theorem dX5_init_7 : decode cX5_init 7 = .ok (.newarray .int, 2) := by decide +kernel
theorem dX5_init_9 : decode cX5_init 9 = .ok (.putfield 9, 3) := by decide +kernel
theorem dX5_init_12 : decode cX5_init 12 = .ok (.aload_n 0, 1) := by decide +kernel
theorem dX5_init_13 : decode cX5_init 13 = .ok (.bipush 24, 2) := by decide +kernel
theorem dX5_init_15 : decode cX5_init 15 = .ok (.newarray .int, 2) := by decide +kernel
theorem dX5_init_17 : decode cX5_init 17 = .ok (.putfield 15, 3) := by decide +kernel
theorem dX5_init_20 : decode cX5_init 20 = .ok (.aload_n 0, 1) := by decide +kernel
theorem dX5_init_21 : decode cX5_init 21 = .ok (.bipush 24, 2) := by decide +kernel
theorem dX5_init_23 : decode cX5_init 23 = .ok (.newarray .int, 2) := by decide +kernel
theorem dX5_init_25 : decode cX5_init 25 = .ok (.putfield 18, 3) := by decide +kernel
theorem dX5_init_28 : decode cX5_init 28 = .ok (.aload_n 0, 1) := by decide +kernel
theorem dX5_init_29 : decode cX5_init 29 = .ok (.aload_n 1, 1) := by decide +kernel
theorem dX5_init_30 : decode cX5_init 30 = .ok (.putfield 21, 3) := by decide +kernel
theorem dX5_init_33 : decode cX5_init 33 = .ok (.return_, 1) := by decide +kernel
theorem dX5_last_0 : decode cX5_last 0 = .ok (.aload_n 0, 1) := by decide +kernel
theorem dX5_last_1 : decode cX5_last 1 = .ok (.getfield 25, 3) := by decide +kernel
theorem dX5_last_4 : decode cX5_last 4 = .ok (.ireturn, 1) := by decide +kernel
theorem dX5_late_0 : decode cX5_late 0 = .ok (.aload_n 0, 1) := by decide +kernel
theorem dX5_late_1 : decode cX5_late 1 = .ok (.getfield 29, 3) := by decide +kernel
theorem dX5_late_4 : decode cX5_late 4 = .ok (.ireturn, 1) := by decide +kernel
theorem dX5_lateTogether_0 : decode cX5_lateTogether 0 = .ok (.aload_n 0, 1) := by decide +kernel
theorem dX5_lateTogether_1 : decode cX5_lateTogether 1 = .ok (.getfield 32, 3) := by decide +kernel
theorem dX5_lateTogether_4 : decode cX5_lateTogether 4 = .ok (.ireturn, 1) := by decide +kernel
theorem dX5_lateMost_0 : decode cX5_lateMost 0 = .ok (.aload_n 0, 1) := by decide +kernel
theorem dX5_lateMost_1 : decode cX5_lateMost 1 = .ok (.getfield 35, 3) := by decide +kernel
theorem dX5_lateMost_4 : decode cX5_lateMost 4 = .ok (.ireturn, 1) := by decide +kernel
theorem dX5_handOf_0 : decode cX5_handOf 0 = .ok (.iload_n 1, 1) := by decide +kernel
theorem dX5_handOf_1 : decode cX5_handOf 1 = .ok (.aload_n 0, 1) := by decide +kernel
theorem dX5_handOf_2 : decode cX5_handOf 2 = .ok (.getfield 38, 3) := by decide +kernel
theorem dX5_handOf_5 : decode cX5_handOf 5 = .ok (.if_icmp .ge 14, 3) := by decide +kernel
theorem dX5_handOf_8 : decode cX5_handOf 8 = .ok (.aload_n 0, 1) := by decide +kernel
theorem dX5_handOf_9 : decode cX5_handOf 9 = .ok (.getfield 15, 3) := by decide +kernel
theorem dX5_handOf_12 : decode cX5_handOf 12 = .ok (.iload_n 1, 1) := by decide +kernel
theorem dX5_handOf_13 : decode cX5_handOf 13 = .ok (.invokestatic 41, 3) := by decide +kernel
theorem dX5_handOf_16 : decode cX5_handOf 16 = .ok (.goto 4, 3) := by decide +kernel
theorem dX5_handOf_19 : decode cX5_handOf 19 = .ok (.iconst (-1), 1) := by decide +kernel
theorem dX5_handOf_20 : decode cX5_handOf 20 = .ok (.ireturn, 1) := by decide +kernel
theorem dX5_endOf_0 : decode cX5_endOf 0 = .ok (.iload_n 1, 1) := by decide +kernel
theorem dX5_endOf_1 : decode cX5_endOf 1 = .ok (.aload_n 0, 1) := by decide +kernel
theorem dX5_endOf_2 : decode cX5_endOf 2 = .ok (.getfield 38, 3) := by decide +kernel
theorem dX5_endOf_5 : decode cX5_endOf 5 = .ok (.if_icmp .ge 14, 3) := by decide +kernel
theorem dX5_endOf_8 : decode cX5_endOf 8 = .ok (.aload_n 0, 1) := by decide +kernel
theorem dX5_endOf_9 : decode cX5_endOf 9 = .ok (.getfield 18, 3) := by decide +kernel
theorem dX5_endOf_12 : decode cX5_endOf 12 = .ok (.iload_n 1, 1) := by decide +kernel
theorem dX5_endOf_13 : decode cX5_endOf 13 = .ok (.invokestatic 41, 3) := by decide +kernel
theorem dX5_endOf_16 : decode cX5_endOf 16 = .ok (.goto 4, 3) := by decide +kernel
theorem dX5_endOf_19 : decode cX5_endOf 19 = .ok (.iconst (-1), 1) := by decide +kernel
theorem dX5_endOf_20 : decode cX5_endOf 20 = .ok (.ireturn, 1) := by decide +kernel
theorem dX5_work_0 : decode cX5_work 0 = .ok (.aload_n 0, 1) := by decide +kernel
theorem dX5_work_1 : decode cX5_work 1 = .ok (.iconst 0, 1) := by decide +kernel
theorem dX5_work_2 : decode cX5_work 2 = .ok (.putfield 25, 3) := by decide +kernel
theorem dX5_work_5 : decode cX5_work 5 = .ok (.aload_n 0, 1) := by decide +kernel
theorem dX5_work_6 : decode cX5_work 6 = .ok (.iconst 0, 1) := by decide +kernel
theorem dX5_work_7 : decode cX5_work 7 = .ok (.putfield 29, 3) := by decide +kernel
theorem dX5_work_10 : decode cX5_work 10 = .ok (.aload_n 0, 1) := by decide +kernel
theorem dX5_work_11 : decode cX5_work 11 = .ok (.iconst 0, 1) := by decide +kernel
theorem dX5_work_12 : decode cX5_work 12 = .ok (.putfield 32, 3) := by decide +kernel
theorem dX5_work_15 : decode cX5_work 15 = .ok (.aload_n 0, 1) := by decide +kernel
theorem dX5_work_16 : decode cX5_work 16 = .ok (.iconst 0, 1) := by decide +kernel
theorem dX5_work_17 : decode cX5_work 17 = .ok (.putfield 35, 3) := by decide +kernel
theorem dX5_work_20 : decode cX5_work 20 = .ok (.aload_n 0, 1) := by decide +kernel
theorem dX5_work_21 : decode cX5_work 21 = .ok (.aload_n 1, 1) := by decide +kernel
theorem dX5_work_22 : decode cX5_work 22 = .ok (.iload_n 2, 1) := by decide +kernel
theorem dX5_work_23 : decode cX5_work 23 = .ok (.invokevirtual 45, 3) := by decide +kernel
theorem dX5_work_26 : decode cX5_work 26 = .ok (.putfield 38, 3) := by decide +kernel
theorem dX5_work_29 : decode cX5_work 29 = .ok (.iconst 0, 1) := by decide +kernel
theorem dX5_work_30 : decode cX5_work 30 = .ok (.istore 4, 2) := by decide +kernel
theorem dX5_work_32 : decode cX5_work 32 = .ok (.iload 4, 2) := by decide +kernel
theorem dX5_work_34 : decode cX5_work 34 = .ok (.bipush 8, 2) := by decide +kernel
theorem dX5_work_36 : decode cX5_work 36 = .ok (.if_icmp .ge 19, 3) := by decide +kernel
theorem dX5_work_39 : decode cX5_work 39 = .ok (.aload_n 0, 1) := by decide +kernel
theorem dX5_work_40 : decode cX5_work 40 = .ok (.getfield 9, 3) := by decide +kernel
theorem dX5_work_43 : decode cX5_work 43 = .ok (.iload 4, 2) := by decide +kernel
theorem dX5_work_45 : decode cX5_work 45 = .ok (.iconst 0, 1) := by decide +kernel
theorem dX5_work_46 : decode cX5_work 46 = .ok (.invokestatic 51, 3) := by decide +kernel
theorem dX5_work_49 : decode cX5_work 49 = .ok (.iinc 4 1, 3) := by decide +kernel
theorem dX5_work_52 : decode cX5_work 52 = .ok (.goto (-20), 3) := by decide +kernel
theorem dX5_work_55 : decode cX5_work 55 = .ok (.iconst 0, 1) := by decide +kernel
theorem dX5_work_56 : decode cX5_work 56 = .ok (.istore 4, 2) := by decide +kernel
theorem dX5_work_58 : decode cX5_work 58 = .ok (.iload 4, 2) := by decide +kernel
theorem dX5_work_60 : decode cX5_work 60 = .ok (.aload_n 0, 1) := by decide +kernel
theorem dX5_work_61 : decode cX5_work 61 = .ok (.getfield 38, 3) := by decide +kernel
theorem dX5_work_64 : decode cX5_work 64 = .ok (.if_icmp .ge 23, 3) := by decide +kernel
theorem dX5_work_67 : decode cX5_work 67 = .ok (.aload_n 0, 1) := by decide +kernel
theorem dX5_work_68 : decode cX5_work 68 = .ok (.aload_n 1, 1) := by decide +kernel
theorem dX5_work_69 : decode cX5_work 69 = .ok (.iload_n 2, 1) := by decide +kernel
theorem dX5_work_70 : decode cX5_work 70 = .ok (.iload 4, 2) := by decide +kernel
theorem dX5_work_72 : decode cX5_work 72 = .ok (.invokevirtual 55, 3) := by decide +kernel
theorem dX5_work_75 : decode cX5_work 75 = .ok (.iload 4, 2) := by decide +kernel
theorem dX5_work_77 : decode cX5_work 77 = .ok (.iload_n 3, 1) := by decide +kernel
theorem dX5_work_78 : decode cX5_work 78 = .ok (.invokevirtual 59, 3) := by decide +kernel
theorem dX5_work_81 : decode cX5_work 81 = .ok (.iinc 4 1, 3) := by decide +kernel
theorem dX5_work_84 : decode cX5_work 84 = .ok (.goto (-26), 3) := by decide +kernel
theorem dX5_work_87 : decode cX5_work 87 = .ok (.return_, 1) := by decide +kernel
theorem dX5_workOn_0 : decode cX5_workOn 0 = .ok (.aload_n 0, 1) := by decide +kernel
theorem dX5_workOn_1 : decode cX5_workOn 1 = .ok (.iload_n 3, 1) := by decide +kernel
theorem dX5_workOn_2 : decode cX5_workOn 2 = .ok (.invokevirtual 63, 3) := by decide +kernel
theorem dX5_workOn_5 : decode cX5_workOn 5 = .ok (.istore 4, 2) := by decide +kernel
theorem dX5_workOn_7 : decode cX5_workOn 7 = .ok (.aload_n 0, 1) := by decide +kernel
theorem dX5_workOn_8 : decode cX5_workOn 8 = .ok (.getfield 9, 3) := by decide +kernel
theorem dX5_workOn_11 : decode cX5_workOn 11 = .ok (.iload 4, 2) := by decide +kernel
theorem dX5_workOn_13 : decode cX5_workOn 13 = .ok (.invokestatic 41, 3) := by decide +kernel
theorem dX5_workOn_16 : decode cX5_workOn 16 = .ok (.aload_n 0, 1) := by decide +kernel
theorem dX5_workOn_17 : decode cX5_workOn 17 = .ok (.getfield 21, 3) := by decide +kernel
theorem dX5_workOn_20 : decode cX5_workOn 20 = .ok (.iload_n 1, 1) := by decide +kernel
theorem dX5_workOn_21 : decode cX5_workOn 21 = .ok (.invokevirtual 66, 3) := by decide +kernel
theorem dX5_workOn_24 : decode cX5_workOn 24 = .ok (.iadd, 1) := by decide +kernel
theorem dX5_workOn_25 : decode cX5_workOn 25 = .ok (.istore 5, 2) := by decide +kernel
theorem dX5_workOn_27 : decode cX5_workOn 27 = .ok (.aload_n 0, 1) := by decide +kernel
theorem dX5_workOn_28 : decode cX5_workOn 28 = .ok (.getfield 9, 3) := by decide +kernel
theorem dX5_workOn_31 : decode cX5_workOn 31 = .ok (.iload 4, 2) := by decide +kernel
theorem dX5_workOn_33 : decode cX5_workOn 33 = .ok (.iload 5, 2) := by decide +kernel
theorem dX5_workOn_35 : decode cX5_workOn 35 = .ok (.invokestatic 51, 3) := by decide +kernel
theorem dX5_workOn_38 : decode cX5_workOn 38 = .ok (.aload_n 0, 1) := by decide +kernel
theorem dX5_workOn_39 : decode cX5_workOn 39 = .ok (.getfield 15, 3) := by decide +kernel
theorem dX5_workOn_42 : decode cX5_workOn 42 = .ok (.iload_n 2, 1) := by decide +kernel
theorem dX5_workOn_43 : decode cX5_workOn 43 = .ok (.iload 4, 2) := by decide +kernel
theorem dX5_workOn_45 : decode cX5_workOn 45 = .ok (.invokestatic 51, 3) := by decide +kernel
theorem dX5_workOn_48 : decode cX5_workOn 48 = .ok (.aload_n 0, 1) := by decide +kernel
theorem dX5_workOn_49 : decode cX5_workOn 49 = .ok (.getfield 18, 3) := by decide +kernel
theorem dX5_workOn_52 : decode cX5_workOn 52 = .ok (.iload_n 2, 1) := by decide +kernel
theorem dX5_workOn_53 : decode cX5_workOn 53 = .ok (.iload 5, 2) := by decide +kernel
theorem dX5_workOn_55 : decode cX5_workOn 55 = .ok (.invokestatic 51, 3) := by decide +kernel
theorem dX5_workOn_58 : decode cX5_workOn 58 = .ok (.aload_n 0, 1) := by decide +kernel
theorem dX5_workOn_59 : decode cX5_workOn 59 = .ok (.aload_n 0, 1) := by decide +kernel
theorem dX5_workOn_60 : decode cX5_workOn 60 = .ok (.getfield 25, 3) := by decide +kernel
theorem dX5_workOn_63 : decode cX5_workOn 63 = .ok (.iload 5, 2) := by decide +kernel
theorem dX5_workOn_65 : decode cX5_workOn 65 = .ok (.invokestatic 71, 3) := by decide +kernel
theorem dX5_workOn_68 : decode cX5_workOn 68 = .ok (.putfield 25, 3) := by decide +kernel
theorem dX5_workOn_71 : decode cX5_workOn 71 = .ok (.iload 5, 2) := by decide +kernel
theorem dX5_workOn_73 : decode cX5_workOn 73 = .ok (.aload_n 0, 1) := by decide +kernel
theorem dX5_workOn_74 : decode cX5_workOn 74 = .ok (.getfield 21, 3) := by decide +kernel
theorem dX5_workOn_77 : decode cX5_workOn 77 = .ok (.iload_n 1, 1) := by decide +kernel
theorem dX5_workOn_78 : decode cX5_workOn 78 = .ok (.invokevirtual 76, 3) := by decide +kernel
theorem dX5_workOn_81 : decode cX5_workOn 81 = .ok (.isub, 1) := by decide +kernel
theorem dX5_workOn_82 : decode cX5_workOn 82 = .ok (.istore 6, 2) := by decide +kernel
theorem dX5_workOn_84 : decode cX5_workOn 84 = .ok (.iload 6, 2) := by decide +kernel
theorem dX5_workOn_86 : decode cX5_workOn 86 = .ok (.ifCond .le 37, 3) := by decide +kernel
theorem dX5_workOn_89 : decode cX5_workOn 89 = .ok (.aload_n 0, 1) := by decide +kernel
theorem dX5_workOn_90 : decode cX5_workOn 90 = .ok (.dup, 1) := by decide +kernel
theorem dX5_workOn_91 : decode cX5_workOn 91 = .ok (.getfield 29, 3) := by decide +kernel
theorem dX5_workOn_94 : decode cX5_workOn 94 = .ok (.iconst 1, 1) := by decide +kernel
theorem dX5_workOn_95 : decode cX5_workOn 95 = .ok (.iadd, 1) := by decide +kernel
theorem dX5_workOn_96 : decode cX5_workOn 96 = .ok (.putfield 29, 3) := by decide +kernel
theorem dX5_workOn_99 : decode cX5_workOn 99 = .ok (.aload_n 0, 1) := by decide +kernel
theorem dX5_workOn_100 : decode cX5_workOn 100 = .ok (.dup, 1) := by decide +kernel
theorem dX5_workOn_101 : decode cX5_workOn 101 = .ok (.getfield 32, 3) := by decide +kernel
theorem dX5_workOn_104 : decode cX5_workOn 104 = .ok (.iload 6, 2) := by decide +kernel
theorem dX5_workOn_106 : decode cX5_workOn 106 = .ok (.iadd, 1) := by decide +kernel
theorem dX5_workOn_107 : decode cX5_workOn 107 = .ok (.putfield 32, 3) := by decide +kernel
theorem dX5_workOn_110 : decode cX5_workOn 110 = .ok (.aload_n 0, 1) := by decide +kernel
theorem dX5_workOn_111 : decode cX5_workOn 111 = .ok (.aload_n 0, 1) := by decide +kernel
theorem dX5_workOn_112 : decode cX5_workOn 112 = .ok (.getfield 35, 3) := by decide +kernel
theorem dX5_workOn_115 : decode cX5_workOn 115 = .ok (.iload 6, 2) := by decide +kernel
theorem dX5_workOn_117 : decode cX5_workOn 117 = .ok (.invokestatic 71, 3) := by decide +kernel
theorem dX5_workOn_120 : decode cX5_workOn 120 = .ok (.putfield 35, 3) := by decide +kernel
theorem dX5_workOn_123 : decode cX5_workOn 123 = .ok (.return_, 1) := by decide +kernel
theorem dX5_freeFirst_0 : decode cX5_freeFirst 0 = .ok (.iconst 0, 1) := by decide +kernel
theorem dX5_freeFirst_1 : decode cX5_freeFirst 1 = .ok (.istore_n 2, 1) := by decide +kernel
theorem dX5_freeFirst_2 : decode cX5_freeFirst 2 = .ok (.iconst 1, 1) := by decide +kernel
theorem dX5_freeFirst_3 : decode cX5_freeFirst 3 = .ok (.istore_n 3, 1) := by decide +kernel
theorem dX5_freeFirst_4 : decode cX5_freeFirst 4 = .ok (.iload_n 3, 1) := by decide +kernel
theorem dX5_freeFirst_5 : decode cX5_freeFirst 5 = .ok (.iload_n 1, 1) := by decide +kernel
theorem dX5_freeFirst_6 : decode cX5_freeFirst 6 = .ok (.if_icmp .ge 30, 3) := by decide +kernel
theorem dX5_freeFirst_9 : decode cX5_freeFirst 9 = .ok (.aload_n 0, 1) := by decide +kernel
theorem dX5_freeFirst_10 : decode cX5_freeFirst 10 = .ok (.getfield 9, 3) := by decide +kernel
theorem dX5_freeFirst_13 : decode cX5_freeFirst 13 = .ok (.iload_n 3, 1) := by decide +kernel
theorem dX5_freeFirst_14 : decode cX5_freeFirst 14 = .ok (.invokestatic 41, 3) := by decide +kernel
theorem dX5_freeFirst_17 : decode cX5_freeFirst 17 = .ok (.aload_n 0, 1) := by decide +kernel
theorem dX5_freeFirst_18 : decode cX5_freeFirst 18 = .ok (.getfield 9, 3) := by decide +kernel
theorem dX5_freeFirst_21 : decode cX5_freeFirst 21 = .ok (.iload_n 2, 1) := by decide +kernel
theorem dX5_freeFirst_22 : decode cX5_freeFirst 22 = .ok (.invokestatic 41, 3) := by decide +kernel
theorem dX5_freeFirst_25 : decode cX5_freeFirst 25 = .ok (.if_icmp .ge 5, 3) := by decide +kernel
theorem dX5_freeFirst_28 : decode cX5_freeFirst 28 = .ok (.iload_n 3, 1) := by decide +kernel
theorem dX5_freeFirst_29 : decode cX5_freeFirst 29 = .ok (.istore_n 2, 1) := by decide +kernel
theorem dX5_freeFirst_30 : decode cX5_freeFirst 30 = .ok (.iinc 3 1, 3) := by decide +kernel
theorem dX5_freeFirst_33 : decode cX5_freeFirst 33 = .ok (.goto (-29), 3) := by decide +kernel
theorem dX5_freeFirst_36 : decode cX5_freeFirst 36 = .ok (.iload_n 2, 1) := by decide +kernel
theorem dX5_freeFirst_37 : decode cX5_freeFirst 37 = .ok (.ireturn, 1) := by decide +kernel
theorem dX6_init_0 : decode cX6_init 0 = .ok (.aload_n 0, 1) := by decide +kernel
theorem dX6_init_1 : decode cX6_init 1 = .ok (.invokespecial 3, 3) := by decide +kernel
theorem dX6_init_4 : decode cX6_init 4 = .ok (.aload_n 0, 1) := by decide +kernel
theorem dX6_init_5 : decode cX6_init 5 = .ok (.bipush 30, 2) := by decide +kernel
theorem dX6_init_7 : decode cX6_init 7 = .ok (.newarray .int, 2) := by decide +kernel
theorem dX6_init_9 : decode cX6_init 9 = .ok (.putfield 9, 3) := by decide +kernel
theorem dX6_init_12 : decode cX6_init 12 = .ok (.aload_n 0, 1) := by decide +kernel
theorem dX6_init_13 : decode cX6_init 13 = .ok (.bipush 30, 2) := by decide +kernel
theorem dX6_init_15 : decode cX6_init 15 = .ok (.newarray .int, 2) := by decide +kernel
theorem dX6_init_17 : decode cX6_init 17 = .ok (.putfield 15, 3) := by decide +kernel
theorem dX6_init_20 : decode cX6_init 20 = .ok (.aload_n 0, 1) := by decide +kernel
theorem dX6_init_21 : decode cX6_init 21 = .ok (.bipush 30, 2) := by decide +kernel
theorem dX6_init_23 : decode cX6_init 23 = .ok (.newarray .int, 2) := by decide +kernel
theorem dX6_init_25 : decode cX6_init 25 = .ok (.putfield 18, 3) := by decide +kernel
theorem dX6_init_28 : decode cX6_init 28 = .ok (.aload_n 0, 1) := by decide +kernel
theorem dX6_init_29 : decode cX6_init 29 = .ok (.bipush 30, 2) := by decide +kernel
theorem dX6_init_31 : decode cX6_init 31 = .ok (.newarray .int, 2) := by decide +kernel
theorem dX6_init_33 : decode cX6_init 33 = .ok (.putfield 21, 3) := by decide +kernel
theorem dX6_init_36 : decode cX6_init 36 = .ok (.aload_n 0, 1) := by decide +kernel
theorem dX6_init_37 : decode cX6_init 37 = .ok (.bipush 30, 2) := by decide +kernel
theorem dX6_init_39 : decode cX6_init 39 = .ok (.newarray .int, 2) := by decide +kernel
theorem dX6_init_41 : decode cX6_init 41 = .ok (.putfield 24, 3) := by decide +kernel
theorem dX6_init_44 : decode cX6_init 44 = .ok (.return_, 1) := by decide +kernel
theorem dX6_versions_0 : decode cX6_versions 0 = .ok (.aload_n 0, 1) := by decide +kernel
theorem dX6_versions_1 : decode cX6_versions 1 = .ok (.getfield 27, 3) := by decide +kernel
theorem dX6_versions_4 : decode cX6_versions 4 = .ok (.ireturn, 1) := by decide +kernel
theorem dX6_howOf_0 : decode cX6_howOf 0 = .ok (.aload_n 0, 1) := by decide +kernel
theorem dX6_howOf_1 : decode cX6_howOf 1 = .ok (.getfield 9, 3) := by decide +kernel
theorem dX6_howOf_4 : decode cX6_howOf 4 = .ok (.iload_n 1, 1) := by decide +kernel
theorem dX6_howOf_5 : decode cX6_howOf 5 = .ok (.invokestatic 31, 3) := by decide +kernel
theorem dX6_howOf_8 : decode cX6_howOf 8 = .ok (.ireturn, 1) := by decide +kernel
theorem dX6_firstOf_0 : decode cX6_firstOf 0 = .ok (.aload_n 0, 1) := by decide +kernel
theorem dX6_firstOf_1 : decode cX6_firstOf 1 = .ok (.getfield 15, 3) := by decide +kernel
theorem dX6_firstOf_4 : decode cX6_firstOf 4 = .ok (.iload_n 1, 1) := by decide +kernel
theorem dX6_firstOf_5 : decode cX6_firstOf 5 = .ok (.invokestatic 31, 3) := by decide +kernel
theorem dX6_firstOf_8 : decode cX6_firstOf 8 = .ok (.ireturn, 1) := by decide +kernel
theorem dX6_secondOf_0 : decode cX6_secondOf 0 = .ok (.aload_n 0, 1) := by decide +kernel
theorem dX6_secondOf_1 : decode cX6_secondOf 1 = .ok (.getfield 18, 3) := by decide +kernel
theorem dX6_secondOf_4 : decode cX6_secondOf 4 = .ok (.iload_n 1, 1) := by decide +kernel
theorem dX6_secondOf_5 : decode cX6_secondOf 5 = .ok (.invokestatic 31, 3) := by decide +kernel
theorem dX6_secondOf_8 : decode cX6_secondOf 8 = .ok (.ireturn, 1) := by decide +kernel
theorem dX6_jobOf_0 : decode cX6_jobOf 0 = .ok (.aload_n 0, 1) := by decide +kernel
theorem dX6_jobOf_1 : decode cX6_jobOf 1 = .ok (.getfield 21, 3) := by decide +kernel
theorem dX6_jobOf_4 : decode cX6_jobOf 4 = .ok (.iload_n 1, 1) := by decide +kernel
theorem dX6_jobOf_5 : decode cX6_jobOf 5 = .ok (.invokestatic 31, 3) := by decide +kernel
theorem dX6_jobOf_8 : decode cX6_jobOf 8 = .ok (.ireturn, 1) := by decide +kernel
theorem dX6_add_0 : decode cX6_add 0 = .ok (.aload_n 0, 1) := by decide +kernel
theorem dX6_add_1 : decode cX6_add 1 = .ok (.getfield 9, 3) := by decide +kernel
theorem dX6_add_4 : decode cX6_add 4 = .ok (.aload_n 0, 1) := by decide +kernel
theorem dX6_add_5 : decode cX6_add 5 = .ok (.getfield 27, 3) := by decide +kernel
theorem dX6_add_8 : decode cX6_add 8 = .ok (.iload_n 1, 1) := by decide +kernel
theorem dX6_add_9 : decode cX6_add 9 = .ok (.invokestatic 35, 3) := by decide +kernel
theorem dX6_add_12 : decode cX6_add 12 = .ok (.aload_n 0, 1) := by decide +kernel
theorem dX6_add_13 : decode cX6_add 13 = .ok (.getfield 15, 3) := by decide +kernel
theorem dX6_add_16 : decode cX6_add 16 = .ok (.aload_n 0, 1) := by decide +kernel
theorem dX6_add_17 : decode cX6_add 17 = .ok (.getfield 27, 3) := by decide +kernel
theorem dX6_add_20 : decode cX6_add 20 = .ok (.iload_n 2, 1) := by decide +kernel
theorem dX6_add_21 : decode cX6_add 21 = .ok (.invokestatic 35, 3) := by decide +kernel
theorem dX6_add_24 : decode cX6_add 24 = .ok (.aload_n 0, 1) := by decide +kernel
theorem dX6_add_25 : decode cX6_add 25 = .ok (.getfield 18, 3) := by decide +kernel
theorem dX6_add_28 : decode cX6_add 28 = .ok (.aload_n 0, 1) := by decide +kernel
theorem dX6_add_29 : decode cX6_add 29 = .ok (.getfield 27, 3) := by decide +kernel
theorem dX6_add_32 : decode cX6_add 32 = .ok (.iload_n 3, 1) := by decide +kernel
theorem dX6_add_33 : decode cX6_add 33 = .ok (.invokestatic 35, 3) := by decide +kernel
theorem dX6_add_36 : decode cX6_add 36 = .ok (.aload_n 0, 1) := by decide +kernel
theorem dX6_add_37 : decode cX6_add 37 = .ok (.getfield 21, 3) := by decide +kernel
theorem dX6_add_40 : decode cX6_add 40 = .ok (.aload_n 0, 1) := by decide +kernel
theorem dX6_add_41 : decode cX6_add 41 = .ok (.getfield 27, 3) := by decide +kernel
theorem dX6_add_44 : decode cX6_add 44 = .ok (.iload 4, 2) := by decide +kernel
theorem dX6_add_46 : decode cX6_add 46 = .ok (.invokestatic 35, 3) := by decide +kernel
theorem dX6_add_49 : decode cX6_add 49 = .ok (.aload_n 0, 1) := by decide +kernel
theorem dX6_add_50 : decode cX6_add 50 = .ok (.getfield 24, 3) := by decide +kernel
theorem dX6_add_53 : decode cX6_add 53 = .ok (.aload_n 0, 1) := by decide +kernel
theorem dX6_add_54 : decode cX6_add 54 = .ok (.getfield 27, 3) := by decide +kernel
theorem dX6_add_57 : decode cX6_add 57 = .ok (.aload_n 0, 1) := by decide +kernel
theorem dX6_add_58 : decode cX6_add 58 = .ok (.iload_n 2, 1) := by decide +kernel
theorem dX6_add_59 : decode cX6_add 59 = .ok (.invokevirtual 39, 3) := by decide +kernel
theorem dX6_add_62 : decode cX6_add 62 = .ok (.aload_n 0, 1) := by decide +kernel
theorem dX6_add_63 : decode cX6_add 63 = .ok (.iload_n 3, 1) := by decide +kernel
theorem dX6_add_64 : decode cX6_add 64 = .ok (.invokevirtual 39, 3) := by decide +kernel
theorem dX6_add_67 : decode cX6_add 67 = .ok (.ior, 1) := by decide +kernel
theorem dX6_add_68 : decode cX6_add 68 = .ok (.invokestatic 35, 3) := by decide +kernel
theorem dX6_add_71 : decode cX6_add 71 = .ok (.aload_n 0, 1) := by decide +kernel
theorem dX6_add_72 : decode cX6_add 72 = .ok (.dup, 1) := by decide +kernel
theorem dX6_add_73 : decode cX6_add 73 = .ok (.getfield 27, 3) := by decide +kernel
theorem dX6_add_76 : decode cX6_add 76 = .ok (.iconst 1, 1) := by decide +kernel
theorem dX6_add_77 : decode cX6_add 77 = .ok (.iadd, 1) := by decide +kernel
theorem dX6_add_78 : decode cX6_add 78 = .ok (.putfield 27, 3) := by decide +kernel
theorem dX6_add_81 : decode cX6_add 81 = .ok (.return_, 1) := by decide +kernel
theorem dX6_cut_0 : decode cX6_cut 0 = .ok (.aload_n 0, 1) := by decide +kernel
theorem dX6_cut_1 : decode cX6_cut 1 = .ok (.iload_n 1, 1) := by decide +kernel
theorem dX6_cut_2 : decode cX6_cut 2 = .ok (.putfield 27, 3) := by decide +kernel
theorem dX6_cut_5 : decode cX6_cut 5 = .ok (.return_, 1) := by decide +kernel
theorem dX6_putsFrom_0 : decode cX6_putsFrom 0 = .ok (.iconst 0, 1) := by decide +kernel
theorem dX6_putsFrom_1 : decode cX6_putsFrom 1 = .ok (.istore_n 2, 1) := by decide +kernel
theorem dX6_putsFrom_2 : decode cX6_putsFrom 2 = .ok (.iload_n 1, 1) := by decide +kernel
theorem dX6_putsFrom_3 : decode cX6_putsFrom 3 = .ok (.istore_n 3, 1) := by decide +kernel
theorem dX6_putsFrom_4 : decode cX6_putsFrom 4 = .ok (.iload_n 3, 1) := by decide +kernel
theorem dX6_putsFrom_5 : decode cX6_putsFrom 5 = .ok (.aload_n 0, 1) := by decide +kernel
theorem dX6_putsFrom_6 : decode cX6_putsFrom 6 = .ok (.getfield 27, 3) := by decide +kernel
theorem dX6_putsFrom_9 : decode cX6_putsFrom 9 = .ok (.if_icmp .ge 21, 3) := by decide +kernel
theorem dX6_putsFrom_12 : decode cX6_putsFrom 12 = .ok (.aload_n 0, 1) := by decide +kernel
theorem dX6_putsFrom_13 : decode cX6_putsFrom 13 = .ok (.iload_n 3, 1) := by decide +kernel
theorem dX6_putsFrom_14 : decode cX6_putsFrom 14 = .ok (.invokevirtual 43, 3) := by decide +kernel
theorem dX6_putsFrom_17 : decode cX6_putsFrom 17 = .ok (.iconst 1, 1) := by decide +kernel
theorem dX6_putsFrom_18 : decode cX6_putsFrom 18 = .ok (.if_icmp .ne 6, 3) := by decide +kernel
theorem dX6_putsFrom_21 : decode cX6_putsFrom 21 = .ok (.iinc 2 1, 3) := by decide +kernel
theorem dX6_putsFrom_24 : decode cX6_putsFrom 24 = .ok (.iinc 3 1, 3) := by decide +kernel
theorem dX6_putsFrom_27 : decode cX6_putsFrom 27 = .ok (.goto (-23), 3) := by decide +kernel
theorem dX6_putsFrom_30 : decode cX6_putsFrom 30 = .ok (.iload_n 2, 1) := by decide +kernel
theorem dX6_putsFrom_31 : decode cX6_putsFrom 31 = .ok (.ireturn, 1) := by decide +kernel
theorem dX6_madeOf_0 : decode cX6_madeOf 0 = .ok (.aload_n 0, 1) := by decide +kernel
theorem dX6_madeOf_1 : decode cX6_madeOf 1 = .ok (.getfield 24, 3) := by decide +kernel
theorem dX6_madeOf_4 : decode cX6_madeOf 4 = .ok (.iload_n 1, 1) := by decide +kernel
theorem dX6_madeOf_5 : decode cX6_madeOf 5 = .ok (.invokestatic 31, 3) := by decide +kernel
theorem dX6_madeOf_8 : decode cX6_madeOf 8 = .ok (.iconst 1, 1) := by decide +kernel
theorem dX6_madeOf_9 : decode cX6_madeOf 9 = .ok (.iload_n 2, 1) := by decide +kernel
theorem dX6_madeOf_10 : decode cX6_madeOf 10 = .ok (.ishl, 1) := by decide +kernel
theorem dX6_madeOf_11 : decode cX6_madeOf 11 = .ok (.iand, 1) := by decide +kernel
theorem dX6_madeOf_12 : decode cX6_madeOf 12 = .ok (.ifCond .eq 7, 3) := by decide +kernel
theorem dX6_madeOf_15 : decode cX6_madeOf 15 = .ok (.iconst 1, 1) := by decide +kernel
theorem dX6_madeOf_16 : decode cX6_madeOf 16 = .ok (.goto 4, 3) := by decide +kernel
theorem dX6_madeOf_19 : decode cX6_madeOf 19 = .ok (.iconst 0, 1) := by decide +kernel
theorem dX6_madeOf_20 : decode cX6_madeOf 20 = .ok (.ireturn, 1) := by decide +kernel
theorem dX6_rootsOf_0 : decode cX6_rootsOf 0 = .ok (.aload_n 0, 1) := by decide +kernel
theorem dX6_rootsOf_1 : decode cX6_rootsOf 1 = .ok (.getfield 24, 3) := by decide +kernel
theorem dX6_rootsOf_4 : decode cX6_rootsOf 4 = .ok (.iload_n 1, 1) := by decide +kernel
theorem dX6_rootsOf_5 : decode cX6_rootsOf 5 = .ok (.invokestatic 31, 3) := by decide +kernel
theorem dX6_rootsOf_8 : decode cX6_rootsOf 8 = .ok (.invokestatic 46, 3) := by decide +kernel
theorem dX6_rootsOf_11 : decode cX6_rootsOf 11 = .ok (.ireturn, 1) := by decide +kernel
theorem dX6_withRoots_0 : decode cX6_withRoots 0 = .ok (.iload_n 1, 1) := by decide +kernel
theorem dX6_withRoots_1 : decode cX6_withRoots 1 = .ok (.ifCond .ge 7, 3) := by decide +kernel
theorem dX6_withRoots_4 : decode cX6_withRoots 4 = .ok (.iconst 0, 1) := by decide +kernel
theorem dX6_withRoots_5 : decode cX6_withRoots 5 = .ok (.goto 15, 3) := by decide +kernel
theorem dX6_withRoots_8 : decode cX6_withRoots 8 = .ok (.aload_n 0, 1) := by decide +kernel
theorem dX6_withRoots_9 : decode cX6_withRoots 9 = .ok (.getfield 24, 3) := by decide +kernel
theorem dX6_withRoots_12 : decode cX6_withRoots 12 = .ok (.iload_n 1, 1) := by decide +kernel
theorem dX6_withRoots_13 : decode cX6_withRoots 13 = .ok (.invokestatic 31, 3) := by decide +kernel
theorem dX6_withRoots_16 : decode cX6_withRoots 16 = .ok (.iconst 1, 1) := by decide +kernel
theorem dX6_withRoots_17 : decode cX6_withRoots 17 = .ok (.iload_n 1, 1) := by decide +kernel
theorem dX6_withRoots_18 : decode cX6_withRoots 18 = .ok (.ishl, 1) := by decide +kernel
theorem dX6_withRoots_19 : decode cX6_withRoots 19 = .ok (.ior, 1) := by decide +kernel
theorem dX6_withRoots_20 : decode cX6_withRoots 20 = .ok (.ireturn, 1) := by decide +kernel
theorem dX7_init_0 : decode cX7_init 0 = .ok (.aload_n 0, 1) := by decide +kernel
theorem dX7_init_1 : decode cX7_init 1 = .ok (.invokespecial 3, 3) := by decide +kernel
theorem dX7_init_4 : decode cX7_init 4 = .ok (.aload_n 0, 1) := by decide +kernel
theorem dX7_init_5 : decode cX7_init 5 = .ok (.sipush 600, 3) := by decide +kernel
theorem dX7_init_8 : decode cX7_init 8 = .ok (.newarray .int, 2) := by decide +kernel
theorem dX7_init_10 : decode cX7_init 10 = .ok (.putfield 9, 3) := by decide +kernel
theorem dX7_init_13 : decode cX7_init 13 = .ok (.return_, 1) := by decide +kernel
theorem dX7_length_0 : decode cX7_length 0 = .ok (.aload_n 0, 1) := by decide +kernel
theorem dX7_length_1 : decode cX7_length 1 = .ok (.getfield 15, 3) := by decide +kernel
theorem dX7_length_4 : decode cX7_length 4 = .ok (.ireturn, 1) := by decide +kernel
theorem dX7_byteAt_0 : decode cX7_byteAt 0 = .ok (.iload_n 1, 1) := by decide +kernel
theorem dX7_byteAt_1 : decode cX7_byteAt 1 = .ok (.ifCond .lt 27, 3) := by decide +kernel
theorem dX7_byteAt_4 : decode cX7_byteAt 4 = .ok (.iload_n 1, 1) := by decide +kernel
theorem dX7_byteAt_5 : decode cX7_byteAt 5 = .ok (.aload_n 0, 1) := by decide +kernel
theorem dX7_byteAt_6 : decode cX7_byteAt 6 = .ok (.getfield 15, 3) := by decide +kernel
theorem dX7_byteAt_9 : decode cX7_byteAt 9 = .ok (.if_icmp .ge 19, 3) := by decide +kernel
theorem dX7_byteAt_12 : decode cX7_byteAt 12 = .ok (.iload_n 1, 1) := by decide +kernel
theorem dX7_byteAt_13 : decode cX7_byteAt 13 = .ok (.sipush 600, 3) := by decide +kernel
theorem dX7_byteAt_16 : decode cX7_byteAt 16 = .ok (.if_icmp .ge 12, 3) := by decide +kernel
theorem dX7_byteAt_19 : decode cX7_byteAt 19 = .ok (.aload_n 0, 1) := by decide +kernel
theorem dX7_byteAt_20 : decode cX7_byteAt 20 = .ok (.getfield 9, 3) := by decide +kernel
theorem dX7_byteAt_23 : decode cX7_byteAt 23 = .ok (.iload_n 1, 1) := by decide +kernel
theorem dX7_byteAt_24 : decode cX7_byteAt 24 = .ok (.iaload, 1) := by decide +kernel
theorem dX7_byteAt_25 : decode cX7_byteAt 25 = .ok (.goto 4, 3) := by decide +kernel
theorem dX7_byteAt_28 : decode cX7_byteAt 28 = .ok (.iconst 0, 1) := by decide +kernel
theorem dX7_byteAt_29 : decode cX7_byteAt 29 = .ok (.ireturn, 1) := by decide +kernel
theorem dX7_add_0 : decode cX7_add 0 = .ok (.bipush 24, 2) := by decide +kernel
theorem dX7_add_2 : decode cX7_add 2 = .ok (.istore_n 2, 1) := by decide +kernel
theorem dX7_add_3 : decode cX7_add 3 = .ok (.iload_n 2, 1) := by decide +kernel
theorem dX7_add_4 : decode cX7_add 4 = .ok (.ifCond .lt 37, 3) := by decide +kernel
theorem dX7_add_7 : decode cX7_add 7 = .ok (.aload_n 0, 1) := by decide +kernel
theorem dX7_add_8 : decode cX7_add 8 = .ok (.getfield 9, 3) := by decide +kernel
theorem dX7_add_11 : decode cX7_add 11 = .ok (.aload_n 0, 1) := by decide +kernel
theorem dX7_add_12 : decode cX7_add 12 = .ok (.getfield 15, 3) := by decide +kernel
theorem dX7_add_15 : decode cX7_add 15 = .ok (.iload_n 1, 1) := by decide +kernel
theorem dX7_add_16 : decode cX7_add 16 = .ok (.iload_n 2, 1) := by decide +kernel
theorem dX7_add_17 : decode cX7_add 17 = .ok (.iushr, 1) := by decide +kernel
theorem dX7_add_18 : decode cX7_add 18 = .ok (.sipush 255, 3) := by decide +kernel
theorem dX7_add_21 : decode cX7_add 21 = .ok (.iand, 1) := by decide +kernel
theorem dX7_add_22 : decode cX7_add 22 = .ok (.invokestatic 19, 3) := by decide +kernel
theorem dX7_add_25 : decode cX7_add 25 = .ok (.aload_n 0, 1) := by decide +kernel
theorem dX7_add_26 : decode cX7_add 26 = .ok (.dup, 1) := by decide +kernel
theorem dX7_add_27 : decode cX7_add 27 = .ok (.getfield 15, 3) := by decide +kernel
theorem dX7_add_30 : decode cX7_add 30 = .ok (.iconst 1, 1) := by decide +kernel
theorem dX7_add_31 : decode cX7_add 31 = .ok (.iadd, 1) := by decide +kernel
theorem dX7_add_32 : decode cX7_add 32 = .ok (.putfield 15, 3) := by decide +kernel
theorem dX7_add_35 : decode cX7_add 35 = .ok (.iinc 2 (-8), 3) := by decide +kernel
theorem dX7_add_38 : decode cX7_add 38 = .ok (.goto (-35), 3) := by decide +kernel
theorem dX7_add_41 : decode cX7_add 41 = .ok (.return_, 1) := by decide +kernel
theorem dX7_cut_0 : decode cX7_cut 0 = .ok (.aload_n 0, 1) := by decide +kernel
theorem dX7_cut_1 : decode cX7_cut 1 = .ok (.iload_n 1, 1) := by decide +kernel
theorem dX7_cut_2 : decode cX7_cut 2 = .ok (.putfield 15, 3) := by decide +kernel
theorem dX7_cut_5 : decode cX7_cut 5 = .ok (.return_, 1) := by decide +kernel
theorem dX8_init_0 : decode cX8_init 0 = .ok (.aload_n 0, 1) := by decide +kernel
theorem dX8_init_1 : decode cX8_init 1 = .ok (.invokespecial 1, 3) := by decide +kernel
theorem dX8_init_4 : decode cX8_init 4 = .ok (.aload_n 0, 1) := by decide +kernel
theorem dX8_init_5 : decode cX8_init 5 = .ok (.aload_n 1, 1) := by decide +kernel
theorem dX8_init_6 : decode cX8_init 6 = .ok (.putfield 7, 3) := by decide +kernel
theorem dX8_init_9 : decode cX8_init 9 = .ok (.return_, 1) := by decide +kernel
theorem dX8_kind_0 : decode cX8_kind 0 = .ok (.aload_n 0, 1) := by decide +kernel
theorem dX8_kind_1 : decode cX8_kind 1 = .ok (.getfield 13, 3) := by decide +kernel
theorem dX8_kind_4 : decode cX8_kind 4 = .ok (.ireturn, 1) := by decide +kernel
theorem dX8_start_0 : decode cX8_start 0 = .ok (.aload_n 0, 1) := by decide +kernel
theorem dX8_start_1 : decode cX8_start 1 = .ok (.getfield 17, 3) := by decide +kernel
theorem dX8_start_4 : decode cX8_start 4 = .ok (.ireturn, 1) := by decide +kernel
theorem dX8_value_0 : decode cX8_value 0 = .ok (.aload_n 0, 1) := by decide +kernel
theorem dX8_value_1 : decode cX8_value 1 = .ok (.getfield 20, 3) := by decide +kernel
theorem dX8_value_4 : decode cX8_value 4 = .ok (.ireturn, 1) := by decide +kernel
theorem dX8_begin_0 : decode cX8_begin 0 = .ok (.aload_n 0, 1) := by decide +kernel
theorem dX8_begin_1 : decode cX8_begin 1 = .ok (.iconst 0, 1) := by decide +kernel
theorem dX8_begin_2 : decode cX8_begin 2 = .ok (.putfield 23, 3) := by decide +kernel
theorem dX8_begin_5 : decode cX8_begin 5 = .ok (.aload_n 0, 1) := by decide +kernel
theorem dX8_begin_6 : decode cX8_begin 6 = .ok (.invokevirtual 26, 3) := by decide +kernel
theorem dX8_begin_9 : decode cX8_begin 9 = .ok (.return_, 1) := by decide +kernel
theorem dX8_move_0 : decode cX8_move 0 = .ok (.aload_n 0, 1) := by decide +kernel
theorem dX8_move_1 : decode cX8_move 1 = .ok (.aload_n 0, 1) := by decide +kernel
theorem dX8_move_2 : decode cX8_move 2 = .ok (.getfield 23, 3) := by decide +kernel
theorem dX8_move_5 : decode cX8_move 5 = .ok (.putfield 17, 3) := by decide +kernel
theorem dX8_move_8 : decode cX8_move 8 = .ok (.aload_n 0, 1) := by decide +kernel
theorem dX8_move_9 : decode cX8_move 9 = .ok (.getfield 17, 3) := by decide +kernel
theorem dX8_move_12 : decode cX8_move 12 = .ok (.aload_n 0, 1) := by decide +kernel
theorem dX8_move_13 : decode cX8_move 13 = .ok (.getfield 7, 3) := by decide +kernel
theorem dX8_move_16 : decode cX8_move 16 = .ok (.invokevirtual 29, 3) := by decide +kernel
theorem dX8_move_19 : decode cX8_move 19 = .ok (.if_icmp .ge 33, 3) := by decide +kernel
theorem dX8_move_22 : decode cX8_move 22 = .ok (.aload_n 0, 1) := by decide +kernel
theorem dX8_move_23 : decode cX8_move 23 = .ok (.getfield 7, 3) := by decide +kernel
theorem dX8_move_26 : decode cX8_move 26 = .ok (.aload_n 0, 1) := by decide +kernel
theorem dX8_move_27 : decode cX8_move 27 = .ok (.getfield 17, 3) := by decide +kernel
theorem dX8_move_30 : decode cX8_move 30 = .ok (.invokevirtual 35, 3) := by decide +kernel
theorem dX8_move_33 : decode cX8_move 33 = .ok (.invokestatic 39, 3) := by decide +kernel
theorem dX8_move_36 : decode cX8_move 36 = .ok (.ifCond .eq 16, 3) := by decide +kernel
theorem dX8_move_39 : decode cX8_move 39 = .ok (.aload_n 0, 1) := by decide +kernel
theorem dX8_move_40 : decode cX8_move 40 = .ok (.dup, 1) := by decide +kernel
theorem dX8_move_41 : decode cX8_move 41 = .ok (.getfield 17, 3) := by decide +kernel
theorem dX8_move_44 : decode cX8_move 44 = .ok (.iconst 1, 1) := by decide +kernel
theorem dX8_move_45 : decode cX8_move 45 = .ok (.iadd, 1) := by decide +kernel
theorem dX8_move_46 : decode cX8_move 46 = .ok (.putfield 17, 3) := by decide +kernel
theorem dX8_move_49 : decode cX8_move 49 = .ok (.goto (-41), 3) := by decide +kernel
theorem dX8_move_52 : decode cX8_move 52 = .ok (.aload_n 0, 1) := by decide +kernel
theorem dX8_move_53 : decode cX8_move 53 = .ok (.aload_n 0, 1) := by decide +kernel
theorem dX8_move_54 : decode cX8_move 54 = .ok (.getfield 17, 3) := by decide +kernel
theorem dX8_move_57 : decode cX8_move 57 = .ok (.iconst 1, 1) := by decide +kernel
theorem dX8_move_58 : decode cX8_move 58 = .ok (.iadd, 1) := by decide +kernel
theorem dX8_move_59 : decode cX8_move 59 = .ok (.putfield 23, 3) := by decide +kernel
theorem dX8_move_62 : decode cX8_move 62 = .ok (.aload_n 0, 1) := by decide +kernel
theorem dX8_move_63 : decode cX8_move 63 = .ok (.getfield 17, 3) := by decide +kernel
theorem dX8_move_66 : decode cX8_move 66 = .ok (.aload_n 0, 1) := by decide +kernel
theorem dX8_move_67 : decode cX8_move 67 = .ok (.getfield 7, 3) := by decide +kernel
theorem dX8_move_70 : decode cX8_move 70 = .ok (.invokevirtual 29, 3) := by decide +kernel
theorem dX8_move_73 : decode cX8_move 73 = .ok (.if_icmp .lt 19, 3) := by decide +kernel
theorem dX8_move_76 : decode cX8_move 76 = .ok (.aload_n 0, 1) := by decide +kernel
theorem dX8_move_77 : decode cX8_move 77 = .ok (.iconst 0, 1) := by decide +kernel
theorem dX8_move_78 : decode cX8_move 78 = .ok (.putfield 13, 3) := by decide +kernel
theorem dX8_move_81 : decode cX8_move 81 = .ok (.aload_n 0, 1) := by decide +kernel
theorem dX8_move_82 : decode cX8_move 82 = .ok (.aload_n 0, 1) := by decide +kernel
theorem dX8_move_83 : decode cX8_move 83 = .ok (.getfield 17, 3) := by decide +kernel
theorem dX8_move_86 : decode cX8_move 86 = .ok (.putfield 23, 3) := by decide +kernel
theorem dX8_move_89 : decode cX8_move 89 = .ok (.goto 86, 3) := by decide +kernel
theorem dX8_move_92 : decode cX8_move 92 = .ok (.aload_n 0, 1) := by decide +kernel
theorem dX8_move_93 : decode cX8_move 93 = .ok (.getfield 7, 3) := by decide +kernel
theorem dX8_move_96 : decode cX8_move 96 = .ok (.aload_n 0, 1) := by decide +kernel
theorem dX8_move_97 : decode cX8_move 97 = .ok (.getfield 17, 3) := by decide +kernel
theorem dX8_move_100 : decode cX8_move 100 = .ok (.invokevirtual 35, 3) := by decide +kernel
theorem dX8_move_103 : decode cX8_move 103 = .ok (.invokestatic 43, 3) := by decide +kernel
theorem dX8_move_106 : decode cX8_move 106 = .ok (.ifCond .eq 15, 3) := by decide +kernel
theorem dX8_move_109 : decode cX8_move 109 = .ok (.aload_n 0, 1) := by decide +kernel
theorem dX8_move_110 : decode cX8_move 110 = .ok (.iconst 1, 1) := by decide +kernel
theorem dX8_move_111 : decode cX8_move 111 = .ok (.putfield 13, 3) := by decide +kernel
theorem dX8_move_114 : decode cX8_move 114 = .ok (.aload_n 0, 1) := by decide +kernel
theorem dX8_move_115 : decode cX8_move 115 = .ok (.invokevirtual 46, 3) := by decide +kernel
theorem dX8_move_118 : decode cX8_move 118 = .ok (.goto 57, 3) := by decide +kernel
theorem dX8_move_121 : decode cX8_move 121 = .ok (.aload_n 0, 1) := by decide +kernel
theorem dX8_move_122 : decode cX8_move 122 = .ok (.getfield 7, 3) := by decide +kernel
theorem dX8_move_125 : decode cX8_move 125 = .ok (.aload_n 0, 1) := by decide +kernel
theorem dX8_move_126 : decode cX8_move 126 = .ok (.getfield 17, 3) := by decide +kernel
theorem dX8_move_129 : decode cX8_move 129 = .ok (.invokevirtual 35, 3) := by decide +kernel
theorem dX8_move_132 : decode cX8_move 132 = .ok (.invokestatic 49, 3) := by decide +kernel
theorem dX8_move_135 : decode cX8_move 135 = .ok (.ifCond .eq 15, 3) := by decide +kernel
theorem dX8_move_138 : decode cX8_move 138 = .ok (.aload_n 0, 1) := by decide +kernel
theorem dX8_move_139 : decode cX8_move 139 = .ok (.iconst 2, 1) := by decide +kernel
theorem dX8_move_140 : decode cX8_move 140 = .ok (.putfield 13, 3) := by decide +kernel
theorem dX8_move_143 : decode cX8_move 143 = .ok (.aload_n 0, 1) := by decide +kernel
theorem dX8_move_144 : decode cX8_move 144 = .ok (.invokevirtual 52, 3) := by decide +kernel
theorem dX8_move_147 : decode cX8_move 147 = .ok (.goto 28, 3) := by decide +kernel
theorem dX8_move_150 : decode cX8_move 150 = .ok (.aload_n 0, 1) := by decide +kernel
theorem dX8_move_151 : decode cX8_move 151 = .ok (.aload_n 0, 1) := by decide +kernel
theorem dX8_move_152 : decode cX8_move 152 = .ok (.getfield 7, 3) := by decide +kernel
theorem dX8_move_155 : decode cX8_move 155 = .ok (.aload_n 0, 1) := by decide +kernel
theorem dX8_move_156 : decode cX8_move 156 = .ok (.getfield 17, 3) := by decide +kernel
theorem dX8_move_159 : decode cX8_move 159 = .ok (.invokevirtual 35, 3) := by decide +kernel
theorem dX8_move_162 : decode cX8_move 162 = .ok (.bipush 59, 2) := by decide +kernel
theorem dX8_move_164 : decode cX8_move 164 = .ok (.if_icmp .ne 7, 3) := by decide +kernel
theorem dX8_move_167 : decode cX8_move 167 = .ok (.iconst 3, 1) := by decide +kernel
theorem dX8_move_168 : decode cX8_move 168 = .ok (.goto 4, 3) := by decide +kernel
theorem dX8_move_171 : decode cX8_move 171 = .ok (.iconst 4, 1) := by decide +kernel
theorem dX8_move_172 : decode cX8_move 172 = .ok (.putfield 13, 3) := by decide +kernel
theorem dX8_move_175 : decode cX8_move 175 = .ok (.return_, 1) := by decide +kernel
theorem dX8_isWord_0 : decode cX8_isWord 0 = .ok (.aload_n 0, 1) := by decide +kernel
theorem dX8_isWord_1 : decode cX8_isWord 1 = .ok (.getfield 13, 3) := by decide +kernel
theorem dX8_isWord_4 : decode cX8_isWord 4 = .ok (.iconst 1, 1) := by decide +kernel
theorem dX8_isWord_5 : decode cX8_isWord 5 = .ok (.if_icmp .ne 19, 3) := by decide +kernel
theorem dX8_isWord_8 : decode cX8_isWord 8 = .ok (.aload_n 0, 1) := by decide +kernel
theorem dX8_isWord_9 : decode cX8_isWord 9 = .ok (.getfield 23, 3) := by decide +kernel
theorem dX8_isWord_12 : decode cX8_isWord 12 = .ok (.aload_n 0, 1) := by decide +kernel
theorem dX8_isWord_13 : decode cX8_isWord 13 = .ok (.getfield 17, 3) := by decide +kernel
theorem dX8_isWord_16 : decode cX8_isWord 16 = .ok (.isub, 1) := by decide +kernel
theorem dX8_isWord_17 : decode cX8_isWord 17 = .ok (.aload_n 1, 1) := by decide +kernel
theorem dX8_isWord_18 : decode cX8_isWord 18 = .ok (.invokevirtual 55, 3) := by decide +kernel
theorem dX8_isWord_21 : decode cX8_isWord 21 = .ok (.if_icmp .eq 5, 3) := by decide +kernel
theorem dX8_isWord_24 : decode cX8_isWord 24 = .ok (.iconst 0, 1) := by decide +kernel
theorem dX8_isWord_25 : decode cX8_isWord 25 = .ok (.ireturn, 1) := by decide +kernel
theorem dX8_isWord_26 : decode cX8_isWord 26 = .ok (.iconst 0, 1) := by decide +kernel
theorem dX8_isWord_27 : decode cX8_isWord 27 = .ok (.istore_n 2, 1) := by decide +kernel
theorem dX8_isWord_28 : decode cX8_isWord 28 = .ok (.iload_n 2, 1) := by decide +kernel
theorem dX8_isWord_29 : decode cX8_isWord 29 = .ok (.aload_n 1, 1) := by decide +kernel
theorem dX8_isWord_30 : decode cX8_isWord 30 = .ok (.invokevirtual 55, 3) := by decide +kernel
theorem dX8_isWord_33 : decode cX8_isWord 33 = .ok (.if_icmp .ge 32, 3) := by decide +kernel
theorem dX8_isWord_36 : decode cX8_isWord 36 = .ok (.aload_n 0, 1) := by decide +kernel
theorem dX8_isWord_37 : decode cX8_isWord 37 = .ok (.getfield 7, 3) := by decide +kernel
theorem dX8_isWord_40 : decode cX8_isWord 40 = .ok (.aload_n 0, 1) := by decide +kernel
theorem dX8_isWord_41 : decode cX8_isWord 41 = .ok (.getfield 17, 3) := by decide +kernel
theorem dX8_isWord_44 : decode cX8_isWord 44 = .ok (.iload_n 2, 1) := by decide +kernel
theorem dX8_isWord_45 : decode cX8_isWord 45 = .ok (.iadd, 1) := by decide +kernel
theorem dX8_isWord_46 : decode cX8_isWord 46 = .ok (.invokevirtual 35, 3) := by decide +kernel
theorem dX8_isWord_49 : decode cX8_isWord 49 = .ok (.aload_n 1, 1) := by decide +kernel
theorem dX8_isWord_50 : decode cX8_isWord 50 = .ok (.iload_n 2, 1) := by decide +kernel
theorem dX8_isWord_51 : decode cX8_isWord 51 = .ok (.invokevirtual 58, 3) := by decide +kernel
theorem dX8_isWord_54 : decode cX8_isWord 54 = .ok (.if_icmp .eq 5, 3) := by decide +kernel
theorem dX8_isWord_57 : decode cX8_isWord 57 = .ok (.iconst 0, 1) := by decide +kernel
theorem dX8_isWord_58 : decode cX8_isWord 58 = .ok (.ireturn, 1) := by decide +kernel
theorem dX8_isWord_59 : decode cX8_isWord 59 = .ok (.iinc 2 1, 3) := by decide +kernel
theorem dX8_isWord_62 : decode cX8_isWord 62 = .ok (.goto (-34), 3) := by decide +kernel
theorem dX8_isWord_65 : decode cX8_isWord 65 = .ok (.iconst 1, 1) := by decide +kernel
theorem dX8_isWord_66 : decode cX8_isWord 66 = .ok (.ireturn, 1) := by decide +kernel
theorem dX8_passLetters_0 : decode cX8_passLetters 0 = .ok (.aload_n 0, 1) := by decide +kernel
theorem dX8_passLetters_1 : decode cX8_passLetters 1 = .ok (.getfield 23, 3) := by decide +kernel
theorem dX8_passLetters_4 : decode cX8_passLetters 4 = .ok (.aload_n 0, 1) := by decide +kernel
theorem dX8_passLetters_5 : decode cX8_passLetters 5 = .ok (.getfield 7, 3) := by decide +kernel
theorem dX8_passLetters_8 : decode cX8_passLetters 8 = .ok (.invokevirtual 29, 3) := by decide +kernel
theorem dX8_passLetters_11 : decode cX8_passLetters 11 = .ok (.if_icmp .ge 33, 3) := by decide +kernel
theorem dX8_passLetters_14 : decode cX8_passLetters 14 = .ok (.aload_n 0, 1) := by decide +kernel
theorem dX8_passLetters_15 : decode cX8_passLetters 15 = .ok (.getfield 7, 3) := by decide +kernel
theorem dX8_passLetters_18 : decode cX8_passLetters 18 = .ok (.aload_n 0, 1) := by decide +kernel
theorem dX8_passLetters_19 : decode cX8_passLetters 19 = .ok (.getfield 23, 3) := by decide +kernel
theorem dX8_passLetters_22 : decode cX8_passLetters 22 = .ok (.invokevirtual 35, 3) := by decide +kernel
theorem dX8_passLetters_25 : decode cX8_passLetters 25 = .ok (.invokestatic 43, 3) := by decide +kernel
theorem dX8_passLetters_28 : decode cX8_passLetters 28 = .ok (.ifCond .eq 16, 3) := by decide +kernel
theorem dX8_passLetters_31 : decode cX8_passLetters 31 = .ok (.aload_n 0, 1) := by decide +kernel
theorem dX8_passLetters_32 : decode cX8_passLetters 32 = .ok (.dup, 1) := by decide +kernel
theorem dX8_passLetters_33 : decode cX8_passLetters 33 = .ok (.getfield 23, 3) := by decide +kernel
theorem dX8_passLetters_36 : decode cX8_passLetters 36 = .ok (.iconst 1, 1) := by decide +kernel
theorem dX8_passLetters_37 : decode cX8_passLetters 37 = .ok (.iadd, 1) := by decide +kernel
theorem dX8_passLetters_38 : decode cX8_passLetters 38 = .ok (.putfield 23, 3) := by decide +kernel
theorem dX8_passLetters_41 : decode cX8_passLetters 41 = .ok (.goto (-41), 3) := by decide +kernel
theorem dX8_passLetters_44 : decode cX8_passLetters 44 = .ok (.return_, 1) := by decide +kernel
theorem dX8_passDigits_0 : decode cX8_passDigits 0 = .ok (.aload_n 0, 1) := by decide +kernel
theorem dX8_passDigits_1 : decode cX8_passDigits 1 = .ok (.aload_n 0, 1) := by decide +kernel
theorem dX8_passDigits_2 : decode cX8_passDigits 2 = .ok (.getfield 7, 3) := by decide +kernel
theorem dX8_passDigits_5 : decode cX8_passDigits 5 = .ok (.aload_n 0, 1) := by decide +kernel
theorem dX8_passDigits_6 : decode cX8_passDigits 6 = .ok (.getfield 17, 3) := by decide +kernel
theorem dX8_passDigits_9 : decode cX8_passDigits 9 = .ok (.invokevirtual 35, 3) := by decide +kernel
theorem dX8_passDigits_12 : decode cX8_passDigits 12 = .ok (.bipush 48, 2) := by decide +kernel
theorem dX8_passDigits_14 : decode cX8_passDigits 14 = .ok (.isub, 1) := by decide +kernel
theorem dX8_passDigits_15 : decode cX8_passDigits 15 = .ok (.putfield 20, 3) := by decide +kernel
theorem dX8_passDigits_18 : decode cX8_passDigits 18 = .ok (.aload_n 0, 1) := by decide +kernel
theorem dX8_passDigits_19 : decode cX8_passDigits 19 = .ok (.getfield 23, 3) := by decide +kernel
theorem dX8_passDigits_22 : decode cX8_passDigits 22 = .ok (.aload_n 0, 1) := by decide +kernel
theorem dX8_passDigits_23 : decode cX8_passDigits 23 = .ok (.getfield 7, 3) := by decide +kernel
theorem dX8_passDigits_26 : decode cX8_passDigits 26 = .ok (.invokevirtual 29, 3) := by decide +kernel
theorem dX8_passDigits_29 : decode cX8_passDigits 29 = .ok (.if_icmp .ge 65, 3) := by decide +kernel
theorem dX8_passDigits_32 : decode cX8_passDigits 32 = .ok (.aload_n 0, 1) := by decide +kernel
theorem dX8_passDigits_33 : decode cX8_passDigits 33 = .ok (.getfield 7, 3) := by decide +kernel
theorem dX8_passDigits_36 : decode cX8_passDigits 36 = .ok (.aload_n 0, 1) := by decide +kernel
theorem dX8_passDigits_37 : decode cX8_passDigits 37 = .ok (.getfield 23, 3) := by decide +kernel
theorem dX8_passDigits_40 : decode cX8_passDigits 40 = .ok (.invokevirtual 35, 3) := by decide +kernel
theorem dX8_passDigits_43 : decode cX8_passDigits 43 = .ok (.invokestatic 49, 3) := by decide +kernel
theorem dX8_passDigits_46 : decode cX8_passDigits 46 = .ok (.ifCond .eq 48, 3) := by decide +kernel
theorem dX8_passDigits_49 : decode cX8_passDigits 49 = .ok (.aload_n 0, 1) := by decide +kernel
theorem dX8_passDigits_50 : decode cX8_passDigits 50 = .ok (.aload_n 0, 1) := by decide +kernel
theorem dX8_passDigits_51 : decode cX8_passDigits 51 = .ok (.getfield 20, 3) := by decide +kernel
theorem dX8_passDigits_54 : decode cX8_passDigits 54 = .ok (.bipush 10, 2) := by decide +kernel
theorem dX8_passDigits_56 : decode cX8_passDigits 56 = .ok (.imul, 1) := by decide +kernel
theorem dX8_passDigits_57 : decode cX8_passDigits 57 = .ok (.aload_n 0, 1) := by decide +kernel
theorem dX8_passDigits_58 : decode cX8_passDigits 58 = .ok (.getfield 7, 3) := by decide +kernel
theorem dX8_passDigits_61 : decode cX8_passDigits 61 = .ok (.aload_n 0, 1) := by decide +kernel
theorem dX8_passDigits_62 : decode cX8_passDigits 62 = .ok (.getfield 23, 3) := by decide +kernel
theorem dX8_passDigits_65 : decode cX8_passDigits 65 = .ok (.invokevirtual 35, 3) := by decide +kernel
theorem dX8_passDigits_68 : decode cX8_passDigits 68 = .ok (.iadd, 1) := by decide +kernel
theorem dX8_passDigits_69 : decode cX8_passDigits 69 = .ok (.bipush 48, 2) := by decide +kernel
theorem dX8_passDigits_71 : decode cX8_passDigits 71 = .ok (.isub, 1) := by decide +kernel
theorem dX8_passDigits_72 : decode cX8_passDigits 72 = .ok (.sipush 10000, 3) := by decide +kernel
theorem dX8_passDigits_75 : decode cX8_passDigits 75 = .ok (.invokestatic 62, 3) := by decide +kernel
theorem dX8_passDigits_78 : decode cX8_passDigits 78 = .ok (.putfield 20, 3) := by decide +kernel
theorem dX8_passDigits_81 : decode cX8_passDigits 81 = .ok (.aload_n 0, 1) := by decide +kernel
theorem dX8_passDigits_82 : decode cX8_passDigits 82 = .ok (.dup, 1) := by decide +kernel
theorem dX8_passDigits_83 : decode cX8_passDigits 83 = .ok (.getfield 23, 3) := by decide +kernel
theorem dX8_passDigits_86 : decode cX8_passDigits 86 = .ok (.iconst 1, 1) := by decide +kernel
theorem dX8_passDigits_87 : decode cX8_passDigits 87 = .ok (.iadd, 1) := by decide +kernel
theorem dX8_passDigits_88 : decode cX8_passDigits 88 = .ok (.putfield 23, 3) := by decide +kernel
theorem dX8_passDigits_91 : decode cX8_passDigits 91 = .ok (.goto (-73), 3) := by decide +kernel
theorem dX8_passDigits_94 : decode cX8_passDigits 94 = .ok (.return_, 1) := by decide +kernel
theorem dX8_isBlank_0 : decode cX8_isBlank 0 = .ok (.iload_n 0, 1) := by decide +kernel
theorem dX8_isBlank_1 : decode cX8_isBlank 1 = .ok (.bipush 32, 2) := by decide +kernel
theorem dX8_isBlank_3 : decode cX8_isBlank 3 = .ok (.if_icmp .eq 9, 3) := by decide +kernel
theorem dX8_isBlank_6 : decode cX8_isBlank 6 = .ok (.iload_n 0, 1) := by decide +kernel
theorem dX8_isBlank_7 : decode cX8_isBlank 7 = .ok (.bipush 10, 2) := by decide +kernel
theorem dX8_isBlank_9 : decode cX8_isBlank 9 = .ok (.if_icmp .ne 7, 3) := by decide +kernel
theorem dX8_isBlank_12 : decode cX8_isBlank 12 = .ok (.iconst 1, 1) := by decide +kernel
theorem dX8_isBlank_13 : decode cX8_isBlank 13 = .ok (.goto 4, 3) := by decide +kernel
theorem dX8_isBlank_16 : decode cX8_isBlank 16 = .ok (.iconst 0, 1) := by decide +kernel
theorem dX8_isBlank_17 : decode cX8_isBlank 17 = .ok (.ireturn, 1) := by decide +kernel
theorem dX8_isLetter_0 : decode cX8_isLetter 0 = .ok (.iload_n 0, 1) := by decide +kernel
theorem dX8_isLetter_1 : decode cX8_isLetter 1 = .ok (.bipush 97, 2) := by decide +kernel
theorem dX8_isLetter_3 : decode cX8_isLetter 3 = .ok (.if_icmp .lt 13, 3) := by decide +kernel
theorem dX8_isLetter_6 : decode cX8_isLetter 6 = .ok (.iload_n 0, 1) := by decide +kernel
theorem dX8_isLetter_7 : decode cX8_isLetter 7 = .ok (.bipush 122, 2) := by decide +kernel
theorem dX8_isLetter_9 : decode cX8_isLetter 9 = .ok (.if_icmp .gt 7, 3) := by decide +kernel
theorem dX8_isLetter_12 : decode cX8_isLetter 12 = .ok (.iconst 1, 1) := by decide +kernel
theorem dX8_isLetter_13 : decode cX8_isLetter 13 = .ok (.goto 4, 3) := by decide +kernel
theorem dX8_isLetter_16 : decode cX8_isLetter 16 = .ok (.iconst 0, 1) := by decide +kernel
theorem dX8_isLetter_17 : decode cX8_isLetter 17 = .ok (.ireturn, 1) := by decide +kernel
theorem dX8_isDigit_0 : decode cX8_isDigit 0 = .ok (.iload_n 0, 1) := by decide +kernel
theorem dX8_isDigit_1 : decode cX8_isDigit 1 = .ok (.bipush 48, 2) := by decide +kernel
theorem dX8_isDigit_3 : decode cX8_isDigit 3 = .ok (.if_icmp .lt 13, 3) := by decide +kernel
theorem dX8_isDigit_6 : decode cX8_isDigit 6 = .ok (.iload_n 0, 1) := by decide +kernel
theorem dX8_isDigit_7 : decode cX8_isDigit 7 = .ok (.bipush 57, 2) := by decide +kernel
theorem dX8_isDigit_9 : decode cX8_isDigit 9 = .ok (.if_icmp .gt 7, 3) := by decide +kernel
theorem dX8_isDigit_12 : decode cX8_isDigit 12 = .ok (.iconst 1, 1) := by decide +kernel
theorem dX8_isDigit_13 : decode cX8_isDigit 13 = .ok (.goto 4, 3) := by decide +kernel
theorem dX8_isDigit_16 : decode cX8_isDigit 16 = .ok (.iconst 0, 1) := by decide +kernel
theorem dX8_isDigit_17 : decode cX8_isDigit 17 = .ok (.ireturn, 1) := by decide +kernel
theorem dX9_init_0 : decode cX9_init 0 = .ok (.aload_n 0, 1) := by decide +kernel
theorem dX9_init_1 : decode cX9_init 1 = .ok (.invokespecial 1, 3) := by decide +kernel
theorem dX9_init_4 : decode cX9_init 4 = .ok (.aload_n 0, 1) := by decide +kernel
theorem dX9_init_5 : decode cX9_init 5 = .ok (.sipush 864, 3) := by decide +kernel
theorem dX9_init_8 : decode cX9_init 8 = .ok (.newarray .int, 2) := by decide +kernel
theorem dX9_init_10 : decode cX9_init 10 = .ok (.putfield 9, 3) := by decide +kernel
theorem dX9_init_13 : decode cX9_init 13 = .ok (.aload_n 0, 1) := by decide +kernel
theorem dX9_init_14 : decode cX9_init 14 = .ok (.sipush 864, 3) := by decide +kernel
theorem dX9_init_17 : decode cX9_init 17 = .ok (.newarray .int, 2) := by decide +kernel
theorem dX9_init_19 : decode cX9_init 19 = .ok (.putfield 15, 3) := by decide +kernel
theorem dX9_init_22 : decode cX9_init 22 = .ok (.return_, 1) := by decide +kernel
theorem dX9_begin_0 : decode cX9_begin 0 = .ok (.aload_n 0, 1) := by decide +kernel
theorem dX9_begin_1 : decode cX9_begin 1 = .ok (.dup, 1) := by decide +kernel
theorem dX9_begin_2 : decode cX9_begin 2 = .ok (.getfield 18, 3) := by decide +kernel
theorem dX9_begin_5 : decode cX9_begin 5 = .ok (.iconst 1, 1) := by decide +kernel
theorem dX9_begin_6 : decode cX9_begin 6 = .ok (.iadd, 1) := by decide +kernel
theorem dX9_begin_7 : decode cX9_begin 7 = .ok (.putfield 18, 3) := by decide +kernel
theorem dX9_begin_10 : decode cX9_begin 10 = .ok (.aload_n 0, 1) := by decide +kernel
theorem dX9_begin_11 : decode cX9_begin 11 = .ok (.iconst 0, 1) := by decide +kernel
theorem dX9_begin_12 : decode cX9_begin 12 = .ok (.putfield 22, 3) := by decide +kernel
theorem dX9_begin_15 : decode cX9_begin 15 = .ok (.return_, 1) := by decide +kernel
theorem dX9_met_0 : decode cX9_met 0 = .ok (.aload_n 0, 1) := by decide +kernel
theorem dX9_met_1 : decode cX9_met 1 = .ok (.getfield 22, 3) := by decide +kernel
theorem dX9_met_4 : decode cX9_met 4 = .ok (.ireturn, 1) := by decide +kernel
theorem dX9_over_0 : decode cX9_over 0 = .ok (.aload_n 0, 1) := by decide +kernel
theorem dX9_over_1 : decode cX9_over 1 = .ok (.getfield 22, 3) := by decide +kernel
theorem dX9_over_4 : decode cX9_over 4 = .ok (.istore_n 3, 1) := by decide +kernel
theorem dX9_over_5 : decode cX9_over 5 = .ok (.aload_n 0, 1) := by decide +kernel
theorem dX9_over_6 : decode cX9_over 6 = .ok (.iload_n 2, 1) := by decide +kernel
theorem dX9_over_7 : decode cX9_over 7 = .ok (.invokevirtual 25, 3) := by decide +kernel
theorem dX9_over_10 : decode cX9_over 10 = .ok (.iload_n 3, 1) := by decide +kernel
theorem dX9_over_11 : decode cX9_over 11 = .ok (.aload_n 0, 1) := by decide +kernel
theorem dX9_over_12 : decode cX9_over 12 = .ok (.getfield 22, 3) := by decide +kernel
theorem dX9_over_15 : decode cX9_over 15 = .ok (.if_icmp .ge 58, 3) := by decide +kernel
theorem dX9_over_18 : decode cX9_over 18 = .ok (.iload_n 3, 1) := by decide +kernel
theorem dX9_over_19 : decode cX9_over 19 = .ok (.sipush 864, 3) := by decide +kernel
theorem dX9_over_22 : decode cX9_over 22 = .ok (.if_icmp .ge 51, 3) := by decide +kernel
theorem dX9_over_25 : decode cX9_over 25 = .ok (.aload_n 0, 1) := by decide +kernel
theorem dX9_over_26 : decode cX9_over 26 = .ok (.getfield 15, 3) := by decide +kernel
theorem dX9_over_29 : decode cX9_over 29 = .ok (.iload_n 3, 1) := by decide +kernel
theorem dX9_over_30 : decode cX9_over 30 = .ok (.invokestatic 29, 3) := by decide +kernel
theorem dX9_over_33 : decode cX9_over 33 = .ok (.istore 4, 2) := by decide +kernel
theorem dX9_over_35 : decode cX9_over 35 = .ok (.aload_n 0, 1) := by decide +kernel
theorem dX9_over_36 : decode cX9_over 36 = .ok (.aload_n 1, 1) := by decide +kernel
theorem dX9_over_37 : decode cX9_over 37 = .ok (.iload 4, 2) := by decide +kernel
theorem dX9_over_39 : decode cX9_over 39 = .ok (.invokevirtual 35, 3) := by decide +kernel
theorem dX9_over_42 : decode cX9_over 42 = .ok (.invokevirtual 25, 3) := by decide +kernel
theorem dX9_over_45 : decode cX9_over 45 = .ok (.aload_n 0, 1) := by decide +kernel
theorem dX9_over_46 : decode cX9_over 46 = .ok (.aload_n 1, 1) := by decide +kernel
theorem dX9_over_47 : decode cX9_over 47 = .ok (.aload_n 1, 1) := by decide +kernel
theorem dX9_over_48 : decode cX9_over 48 = .ok (.iload 4, 2) := by decide +kernel
theorem dX9_over_50 : decode cX9_over 50 = .ok (.invokevirtual 39, 3) := by decide +kernel
theorem dX9_over_53 : decode cX9_over 53 = .ok (.invokevirtual 42, 3) := by decide +kernel
theorem dX9_over_56 : decode cX9_over 56 = .ok (.aload_n 0, 1) := by decide +kernel
theorem dX9_over_57 : decode cX9_over 57 = .ok (.aload_n 1, 1) := by decide +kernel
theorem dX9_over_58 : decode cX9_over 58 = .ok (.aload_n 1, 1) := by decide +kernel
theorem dX9_over_59 : decode cX9_over 59 = .ok (.iload 4, 2) := by decide +kernel
theorem dX9_over_61 : decode cX9_over 61 = .ok (.invokevirtual 46, 3) := by decide +kernel
theorem dX9_over_64 : decode cX9_over 64 = .ok (.invokevirtual 42, 3) := by decide +kernel
theorem dX9_over_67 : decode cX9_over 67 = .ok (.iinc 3 1, 3) := by decide +kernel
theorem dX9_over_70 : decode cX9_over 70 = .ok (.goto (-60), 3) := by decide +kernel
theorem dX9_over_73 : decode cX9_over 73 = .ok (.return_, 1) := by decide +kernel
theorem dX9_meetAll_0 : decode cX9_meetAll 0 = .ok (.iload_n 2, 1) := by decide +kernel
theorem dX9_meetAll_1 : decode cX9_meetAll 1 = .ok (.istore_n 3, 1) := by decide +kernel
theorem dX9_meetAll_2 : decode cX9_meetAll 2 = .ok (.iconst 0, 1) := by decide +kernel
theorem dX9_meetAll_3 : decode cX9_meetAll 3 = .ok (.istore 4, 2) := by decide +kernel
theorem dX9_meetAll_5 : decode cX9_meetAll 5 = .ok (.iload 4, 2) := by decide +kernel
theorem dX9_meetAll_7 : decode cX9_meetAll 7 = .ok (.sipush 2592, 3) := by decide +kernel
theorem dX9_meetAll_10 : decode cX9_meetAll 10 = .ok (.if_icmp .ge 28, 3) := by decide +kernel
theorem dX9_meetAll_13 : decode cX9_meetAll 13 = .ok (.iload_n 3, 1) := by decide +kernel
theorem dX9_meetAll_14 : decode cX9_meetAll 14 = .ok (.ifCond .eq 24, 3) := by decide +kernel
theorem dX9_meetAll_17 : decode cX9_meetAll 17 = .ok (.aload_n 0, 1) := by decide +kernel
theorem dX9_meetAll_18 : decode cX9_meetAll 18 = .ok (.aload_n 1, 1) := by decide +kernel
theorem dX9_meetAll_19 : decode cX9_meetAll 19 = .ok (.iload_n 3, 1) := by decide +kernel
theorem dX9_meetAll_20 : decode cX9_meetAll 20 = .ok (.invokevirtual 49, 3) := by decide +kernel
theorem dX9_meetAll_23 : decode cX9_meetAll 23 = .ok (.invokevirtual 25, 3) := by decide +kernel
theorem dX9_meetAll_26 : decode cX9_meetAll 26 = .ok (.aload_n 1, 1) := by decide +kernel
theorem dX9_meetAll_27 : decode cX9_meetAll 27 = .ok (.iload_n 3, 1) := by decide +kernel
theorem dX9_meetAll_28 : decode cX9_meetAll 28 = .ok (.invokevirtual 52, 3) := by decide +kernel
theorem dX9_meetAll_31 : decode cX9_meetAll 31 = .ok (.istore_n 3, 1) := by decide +kernel
theorem dX9_meetAll_32 : decode cX9_meetAll 32 = .ok (.iinc 4 1, 3) := by decide +kernel
theorem dX9_meetAll_35 : decode cX9_meetAll 35 = .ok (.goto (-30), 3) := by decide +kernel
theorem dX9_meetAll_38 : decode cX9_meetAll 38 = .ok (.return_, 1) := by decide +kernel
theorem dX9_meet_0 : decode cX9_meet 0 = .ok (.iload_n 1, 1) := by decide +kernel
theorem dX9_meet_1 : decode cX9_meet 1 = .ok (.ifCond .eq 52, 3) := by decide +kernel
theorem dX9_meet_4 : decode cX9_meet 4 = .ok (.aload_n 0, 1) := by decide +kernel
theorem dX9_meet_5 : decode cX9_meet 5 = .ok (.getfield 9, 3) := by decide +kernel
theorem dX9_meet_8 : decode cX9_meet 8 = .ok (.iload_n 1, 1) := by decide +kernel
theorem dX9_meet_9 : decode cX9_meet 9 = .ok (.invokestatic 29, 3) := by decide +kernel
theorem dX9_meet_12 : decode cX9_meet 12 = .ok (.aload_n 0, 1) := by decide +kernel
theorem dX9_meet_13 : decode cX9_meet 13 = .ok (.getfield 18, 3) := by decide +kernel
theorem dX9_meet_16 : decode cX9_meet 16 = .ok (.if_icmp .eq 37, 3) := by decide +kernel
theorem dX9_meet_19 : decode cX9_meet 19 = .ok (.aload_n 0, 1) := by decide +kernel
theorem dX9_meet_20 : decode cX9_meet 20 = .ok (.getfield 9, 3) := by decide +kernel
theorem dX9_meet_23 : decode cX9_meet 23 = .ok (.iload_n 1, 1) := by decide +kernel
theorem dX9_meet_24 : decode cX9_meet 24 = .ok (.aload_n 0, 1) := by decide +kernel
theorem dX9_meet_25 : decode cX9_meet 25 = .ok (.getfield 18, 3) := by decide +kernel
theorem dX9_meet_28 : decode cX9_meet 28 = .ok (.invokestatic 55, 3) := by decide +kernel
theorem dX9_meet_31 : decode cX9_meet 31 = .ok (.aload_n 0, 1) := by decide +kernel
theorem dX9_meet_32 : decode cX9_meet 32 = .ok (.getfield 15, 3) := by decide +kernel
theorem dX9_meet_35 : decode cX9_meet 35 = .ok (.aload_n 0, 1) := by decide +kernel
theorem dX9_meet_36 : decode cX9_meet 36 = .ok (.getfield 22, 3) := by decide +kernel
theorem dX9_meet_39 : decode cX9_meet 39 = .ok (.iload_n 1, 1) := by decide +kernel
theorem dX9_meet_40 : decode cX9_meet 40 = .ok (.invokestatic 55, 3) := by decide +kernel
theorem dX9_meet_43 : decode cX9_meet 43 = .ok (.aload_n 0, 1) := by decide +kernel
theorem dX9_meet_44 : decode cX9_meet 44 = .ok (.dup, 1) := by decide +kernel
theorem dX9_meet_45 : decode cX9_meet 45 = .ok (.getfield 22, 3) := by decide +kernel
theorem dX9_meet_48 : decode cX9_meet 48 = .ok (.iconst 1, 1) := by decide +kernel
theorem dX9_meet_49 : decode cX9_meet 49 = .ok (.iadd, 1) := by decide +kernel
theorem dX9_meet_50 : decode cX9_meet 50 = .ok (.putfield 22, 3) := by decide +kernel
theorem dX9_meet_53 : decode cX9_meet 53 = .ok (.return_, 1) := by decide +kernel
theorem dX10_init_0 : decode cX10_init 0 = .ok (.aload_n 0, 1) := by decide +kernel
theorem dX10_init_1 : decode cX10_init 1 = .ok (.invokespecial 1, 3) := by decide +kernel
theorem dX10_init_4 : decode cX10_init 4 = .ok (.aload_n 0, 1) := by decide +kernel
theorem dX10_init_5 : decode cX10_init 5 = .ok (.new 7, 3) := by decide +kernel
theorem dX10_init_8 : decode cX10_init 8 = .ok (.dup, 1) := by decide +kernel
theorem dX10_init_9 : decode cX10_init 9 = .ok (.invokespecial 9, 3) := by decide +kernel
theorem dX10_init_12 : decode cX10_init 12 = .ok (.putfield 10, 3) := by decide +kernel
theorem dX10_init_15 : decode cX10_init 15 = .ok (.aload_n 0, 1) := by decide +kernel
theorem dX10_init_16 : decode cX10_init 16 = .ok (.new 16, 3) := by decide +kernel
theorem dX10_init_19 : decode cX10_init 19 = .ok (.dup, 1) := by decide +kernel
theorem dX10_init_20 : decode cX10_init 20 = .ok (.aload_n 0, 1) := by decide +kernel
theorem dX10_init_21 : decode cX10_init 21 = .ok (.getfield 10, 3) := by decide +kernel
theorem dX10_init_24 : decode cX10_init 24 = .ok (.invokespecial 18, 3) := by decide +kernel
theorem dX10_init_27 : decode cX10_init 27 = .ok (.putfield 21, 3) := by decide +kernel
theorem dX10_init_30 : decode cX10_init 30 = .ok (.aload_n 0, 1) := by decide +kernel
theorem dX10_init_31 : decode cX10_init 31 = .ok (.new 25, 3) := by decide +kernel
theorem dX10_init_34 : decode cX10_init 34 = .ok (.dup, 1) := by decide +kernel
theorem dX10_init_35 : decode cX10_init 35 = .ok (.invokespecial 27, 3) := by decide +kernel
theorem dX10_init_38 : decode cX10_init 38 = .ok (.putfield 28, 3) := by decide +kernel
theorem dX10_init_41 : decode cX10_init 41 = .ok (.aload_n 0, 1) := by decide +kernel
theorem dX10_init_42 : decode cX10_init 42 = .ok (.new 32, 3) := by decide +kernel
theorem dX10_init_45 : decode cX10_init 45 = .ok (.dup, 1) := by decide +kernel
theorem dX10_init_46 : decode cX10_init 46 = .ok (.invokespecial 34, 3) := by decide +kernel
theorem dX10_init_49 : decode cX10_init 49 = .ok (.putfield 35, 3) := by decide +kernel
theorem dX10_init_52 : decode cX10_init 52 = .ok (.aload_n 0, 1) := by decide +kernel
theorem dX10_init_53 : decode cX10_init 53 = .ok (.new 39, 3) := by decide +kernel
theorem dX10_init_56 : decode cX10_init 56 = .ok (.dup, 1) := by decide +kernel
theorem dX10_init_57 : decode cX10_init 57 = .ok (.invokespecial 41, 3) := by decide +kernel
theorem dX10_init_60 : decode cX10_init 60 = .ok (.putfield 42, 3) := by decide +kernel
theorem dX10_init_63 : decode cX10_init 63 = .ok (.aload_n 0, 1) := by decide +kernel
theorem dX10_init_64 : decode cX10_init 64 = .ok (.new 39, 3) := by decide +kernel
theorem dX10_init_67 : decode cX10_init 67 = .ok (.dup, 1) := by decide +kernel
theorem dX10_init_68 : decode cX10_init 68 = .ok (.invokespecial 41, 3) := by decide +kernel
theorem dX10_init_71 : decode cX10_init 71 = .ok (.putfield 46, 3) := by decide +kernel
theorem dX10_init_74 : decode cX10_init 74 = .ok (.aload_n 0, 1) := by decide +kernel
theorem dX10_init_75 : decode cX10_init 75 = .ok (.new 49, 3) := by decide +kernel
theorem dX10_init_78 : decode cX10_init 78 = .ok (.dup, 1) := by decide +kernel
theorem dX10_init_79 : decode cX10_init 79 = .ok (.iconst 0, 1) := by decide +kernel
theorem dX10_init_80 : decode cX10_init 80 = .ok (.invokespecial 51, 3) := by decide +kernel
theorem dX10_init_83 : decode cX10_init 83 = .ok (.putfield 54, 3) := by decide +kernel
theorem dX10_init_86 : decode cX10_init 86 = .ok (.aload_n 0, 1) := by decide +kernel
theorem dX10_init_87 : decode cX10_init 87 = .ok (.new 49, 3) := by decide +kernel
theorem dX10_init_90 : decode cX10_init 90 = .ok (.dup, 1) := by decide +kernel
theorem dX10_init_91 : decode cX10_init 91 = .ok (.iconst 1, 1) := by decide +kernel
theorem dX10_init_92 : decode cX10_init 92 = .ok (.invokespecial 51, 3) := by decide +kernel
theorem dX10_init_95 : decode cX10_init 95 = .ok (.putfield 58, 3) := by decide +kernel
theorem dX10_init_98 : decode cX10_init 98 = .ok (.aload_n 0, 1) := by decide +kernel
theorem dX10_init_99 : decode cX10_init 99 = .ok (.new 61, 3) := by decide +kernel
theorem dX10_init_102 : decode cX10_init 102 = .ok (.dup, 1) := by decide +kernel
theorem dX10_init_103 : decode cX10_init 103 = .ok (.invokespecial 63, 3) := by decide +kernel
theorem dX10_init_106 : decode cX10_init 106 = .ok (.putfield 64, 3) := by decide +kernel
theorem dX10_init_109 : decode cX10_init 109 = .ok (.aload_n 0, 1) := by decide +kernel
theorem dX10_init_110 : decode cX10_init 110 = .ok (.new 68, 3) := by decide +kernel
theorem dX10_init_113 : decode cX10_init 113 = .ok (.dup, 1) := by decide +kernel
theorem dX10_init_114 : decode cX10_init 114 = .ok (.aload_n 0, 1) := by decide +kernel
theorem dX10_init_115 : decode cX10_init 115 = .ok (.getfield 28, 3) := by decide +kernel
theorem dX10_init_118 : decode cX10_init 118 = .ok (.invokespecial 70, 3) := by decide +kernel
theorem dX10_init_121 : decode cX10_init 121 = .ok (.putfield 73, 3) := by decide +kernel
theorem dX10_init_124 : decode cX10_init 124 = .ok (.return_, 1) := by decide +kernel
theorem dX10_feed_0 : decode cX10_feed 0 = .ok (.aload_n 0, 1) := by decide +kernel
theorem dX10_feed_1 : decode cX10_feed 1 = .ok (.getfield 10, 3) := by decide +kernel
theorem dX10_feed_4 : decode cX10_feed 4 = .ok (.invokevirtual 77, 3) := by decide +kernel
theorem dX10_feed_7 : decode cX10_feed 7 = .ok (.bipush 20, 2) := by decide +kernel
theorem dX10_feed_9 : decode cX10_feed 9 = .ok (.iadd, 1) := by decide +kernel
theorem dX10_feed_10 : decode cX10_feed 10 = .ok (.sipush 600, 3) := by decide +kernel
theorem dX10_feed_13 : decode cX10_feed 13 = .ok (.if_icmp .le 5, 3) := by decide +kernel
theorem dX10_feed_16 : decode cX10_feed 16 = .ok (.iconst (-1), 1) := by decide +kernel
theorem dX10_feed_17 : decode cX10_feed 17 = .ok (.ireturn, 1) := by decide +kernel
theorem dX10_feed_18 : decode cX10_feed 18 = .ok (.aload_n 0, 1) := by decide +kernel
theorem dX10_feed_19 : decode cX10_feed 19 = .ok (.getfield 10, 3) := by decide +kernel
theorem dX10_feed_22 : decode cX10_feed 22 = .ok (.iload_n 1, 1) := by decide +kernel
theorem dX10_feed_23 : decode cX10_feed 23 = .ok (.invokevirtual 81, 3) := by decide +kernel
theorem dX10_feed_26 : decode cX10_feed 26 = .ok (.aload_n 0, 1) := by decide +kernel
theorem dX10_feed_27 : decode cX10_feed 27 = .ok (.getfield 10, 3) := by decide +kernel
theorem dX10_feed_30 : decode cX10_feed 30 = .ok (.iload_n 2, 1) := by decide +kernel
theorem dX10_feed_31 : decode cX10_feed 31 = .ok (.invokevirtual 81, 3) := by decide +kernel
theorem dX10_feed_34 : decode cX10_feed 34 = .ok (.aload_n 0, 1) := by decide +kernel
theorem dX10_feed_35 : decode cX10_feed 35 = .ok (.getfield 10, 3) := by decide +kernel
theorem dX10_feed_38 : decode cX10_feed 38 = .ok (.iload_n 3, 1) := by decide +kernel
theorem dX10_feed_39 : decode cX10_feed 39 = .ok (.invokevirtual 81, 3) := by decide +kernel
theorem dX10_feed_42 : decode cX10_feed 42 = .ok (.aload_n 0, 1) := by decide +kernel
theorem dX10_feed_43 : decode cX10_feed 43 = .ok (.getfield 10, 3) := by decide +kernel
theorem dX10_feed_46 : decode cX10_feed 46 = .ok (.iload 4, 2) := by decide +kernel
theorem dX10_feed_48 : decode cX10_feed 48 = .ok (.invokevirtual 81, 3) := by decide +kernel
theorem dX10_feed_51 : decode cX10_feed 51 = .ok (.aload_n 0, 1) := by decide +kernel
theorem dX10_feed_52 : decode cX10_feed 52 = .ok (.getfield 10, 3) := by decide +kernel
theorem dX10_feed_55 : decode cX10_feed 55 = .ok (.iload 5, 2) := by decide +kernel
theorem dX10_feed_57 : decode cX10_feed 57 = .ok (.invokevirtual 81, 3) := by decide +kernel
theorem dX10_feed_60 : decode cX10_feed 60 = .ok (.aload_n 0, 1) := by decide +kernel
theorem dX10_feed_61 : decode cX10_feed 61 = .ok (.getfield 10, 3) := by decide +kernel
theorem dX10_feed_64 : decode cX10_feed 64 = .ok (.invokevirtual 77, 3) := by decide +kernel
theorem dX10_feed_67 : decode cX10_feed 67 = .ok (.ireturn, 1) := by decide +kernel
theorem dX10_end_0 : decode cX10_end 0 = .ok (.iload_n 1, 1) := by decide +kernel
theorem dX10_end_1 : decode cX10_end 1 = .ok (.ifCond .lt 14, 3) := by decide +kernel
theorem dX10_end_4 : decode cX10_end 4 = .ok (.iload_n 1, 1) := by decide +kernel
theorem dX10_end_5 : decode cX10_end 5 = .ok (.aload_n 0, 1) := by decide +kernel
theorem dX10_end_6 : decode cX10_end 6 = .ok (.getfield 10, 3) := by decide +kernel
theorem dX10_end_9 : decode cX10_end 9 = .ok (.invokevirtual 77, 3) := by decide +kernel
theorem dX10_end_12 : decode cX10_end 12 = .ok (.if_icmp .le 5, 3) := by decide +kernel
theorem dX10_end_15 : decode cX10_end 15 = .ok (.iconst (-1), 1) := by decide +kernel
theorem dX10_end_16 : decode cX10_end 16 = .ok (.ireturn, 1) := by decide +kernel
theorem dX10_end_17 : decode cX10_end 17 = .ok (.aload_n 0, 1) := by decide +kernel
theorem dX10_end_18 : decode cX10_end 18 = .ok (.getfield 10, 3) := by decide +kernel
theorem dX10_end_21 : decode cX10_end 21 = .ok (.iload_n 1, 1) := by decide +kernel
theorem dX10_end_22 : decode cX10_end 22 = .ok (.invokevirtual 84, 3) := by decide +kernel
theorem dX10_end_25 : decode cX10_end 25 = .ok (.iload_n 1, 1) := by decide +kernel
theorem dX10_end_26 : decode cX10_end 26 = .ok (.ireturn, 1) := by decide +kernel
theorem dX10_plan_0 : decode cX10_plan 0 = .ok (.aload_n 0, 1) := by decide +kernel
theorem dX10_plan_1 : decode cX10_plan 1 = .ok (.getfield 21, 3) := by decide +kernel
theorem dX10_plan_4 : decode cX10_plan 4 = .ok (.invokevirtual 87, 3) := by decide +kernel
theorem dX10_plan_7 : decode cX10_plan 7 = .ok (.istore_n 1, 1) := by decide +kernel
theorem dX10_plan_8 : decode cX10_plan 8 = .ok (.aload_n 0, 1) := by decide +kernel
theorem dX10_plan_9 : decode cX10_plan 9 = .ok (.getfield 10, 3) := by decide +kernel
theorem dX10_plan_12 : decode cX10_plan 12 = .ok (.iconst 0, 1) := by decide +kernel
theorem dX10_plan_13 : decode cX10_plan 13 = .ok (.invokevirtual 84, 3) := by decide +kernel
theorem dX10_plan_16 : decode cX10_plan 16 = .ok (.iload_n 1, 1) := by decide +kernel
theorem dX10_plan_17 : decode cX10_plan 17 = .ok (.ifCond .ne 6, 3) := by decide +kernel
theorem dX10_plan_20 : decode cX10_plan 20 = .ok (.bipush (-4), 2) := by decide +kernel
theorem dX10_plan_22 : decode cX10_plan 22 = .ok (.ireturn, 1) := by decide +kernel
theorem dX10_plan_23 : decode cX10_plan 23 = .ok (.aload_n 0, 1) := by decide +kernel
theorem dX10_plan_24 : decode cX10_plan 24 = .ok (.iconst 0, 1) := by decide +kernel
theorem dX10_plan_25 : decode cX10_plan 25 = .ok (.invokevirtual 91, 3) := by decide +kernel
theorem dX10_plan_28 : decode cX10_plan 28 = .ok (.aload_n 0, 1) := by decide +kernel
theorem dX10_plan_29 : decode cX10_plan 29 = .ok (.aload_n 0, 1) := by decide +kernel
theorem dX10_plan_30 : decode cX10_plan 30 = .ok (.getfield 21, 3) := by decide +kernel
theorem dX10_plan_33 : decode cX10_plan 33 = .ok (.invokevirtual 94, 3) := by decide +kernel
theorem dX10_plan_36 : decode cX10_plan 36 = .ok (.putfield 97, 3) := by decide +kernel
theorem dX10_plan_39 : decode cX10_plan 39 = .ok (.aload_n 0, 1) := by decide +kernel
theorem dX10_plan_40 : decode cX10_plan 40 = .ok (.aload_n 0, 1) := by decide +kernel
theorem dX10_plan_41 : decode cX10_plan 41 = .ok (.getfield 21, 3) := by decide +kernel
theorem dX10_plan_44 : decode cX10_plan 44 = .ok (.invokevirtual 101, 3) := by decide +kernel
theorem dX10_plan_47 : decode cX10_plan 47 = .ok (.putfield 104, 3) := by decide +kernel
theorem dX10_plan_50 : decode cX10_plan 50 = .ok (.aload_n 0, 1) := by decide +kernel
theorem dX10_plan_51 : decode cX10_plan 51 = .ok (.aload_n 0, 1) := by decide +kernel
theorem dX10_plan_52 : decode cX10_plan 52 = .ok (.getfield 21, 3) := by decide +kernel
theorem dX10_plan_55 : decode cX10_plan 55 = .ok (.invokevirtual 107, 3) := by decide +kernel
theorem dX10_plan_58 : decode cX10_plan 58 = .ok (.putfield 110, 3) := by decide +kernel
theorem dX10_plan_61 : decode cX10_plan 61 = .ok (.aload_n 0, 1) := by decide +kernel
theorem dX10_plan_62 : decode cX10_plan 62 = .ok (.aload_n 0, 1) := by decide +kernel
theorem dX10_plan_63 : decode cX10_plan 63 = .ok (.getfield 21, 3) := by decide +kernel
theorem dX10_plan_66 : decode cX10_plan 66 = .ok (.invokevirtual 113, 3) := by decide +kernel
theorem dX10_plan_69 : decode cX10_plan 69 = .ok (.putfield 116, 3) := by decide +kernel
theorem dX10_plan_72 : decode cX10_plan 72 = .ok (.iconst 0, 1) := by decide +kernel
theorem dX10_plan_73 : decode cX10_plan 73 = .ok (.istore_n 2, 1) := by decide +kernel
theorem dX10_plan_74 : decode cX10_plan 74 = .ok (.iload_n 2, 1) := by decide +kernel
theorem dX10_plan_75 : decode cX10_plan 75 = .ok (.aload_n 0, 1) := by decide +kernel
theorem dX10_plan_76 : decode cX10_plan 76 = .ok (.getfield 116, 3) := by decide +kernel
theorem dX10_plan_79 : decode cX10_plan 79 = .ok (.if_icmp .ge 54, 3) := by decide +kernel
theorem dX10_plan_82 : decode cX10_plan 82 = .ok (.aload_n 0, 1) := by decide +kernel
theorem dX10_plan_83 : decode cX10_plan 83 = .ok (.aload_n 0, 1) := by decide +kernel
theorem dX10_plan_84 : decode cX10_plan 84 = .ok (.getfield 21, 3) := by decide +kernel
theorem dX10_plan_87 : decode cX10_plan 87 = .ok (.iload_n 2, 1) := by decide +kernel
theorem dX10_plan_88 : decode cX10_plan 88 = .ok (.invokevirtual 119, 3) := by decide +kernel
theorem dX10_plan_91 : decode cX10_plan 91 = .ok (.aload_n 0, 1) := by decide +kernel
theorem dX10_plan_92 : decode cX10_plan 92 = .ok (.getfield 21, 3) := by decide +kernel
theorem dX10_plan_95 : decode cX10_plan 95 = .ok (.iload_n 2, 1) := by decide +kernel
theorem dX10_plan_96 : decode cX10_plan 96 = .ok (.invokevirtual 123, 3) := by decide +kernel
theorem dX10_plan_99 : decode cX10_plan 99 = .ok (.aload_n 0, 1) := by decide +kernel
theorem dX10_plan_100 : decode cX10_plan 100 = .ok (.getfield 21, 3) := by decide +kernel
theorem dX10_plan_103 : decode cX10_plan 103 = .ok (.iload_n 2, 1) := by decide +kernel
theorem dX10_plan_104 : decode cX10_plan 104 = .ok (.invokevirtual 126, 3) := by decide +kernel
theorem dX10_plan_107 : decode cX10_plan 107 = .ok (.aload_n 0, 1) := by decide +kernel
theorem dX10_plan_108 : decode cX10_plan 108 = .ok (.getfield 21, 3) := by decide +kernel
theorem dX10_plan_111 : decode cX10_plan 111 = .ok (.iload_n 2, 1) := by decide +kernel
theorem dX10_plan_112 : decode cX10_plan 112 = .ok (.invokevirtual 129, 3) := by decide +kernel
theorem dX10_plan_115 : decode cX10_plan 115 = .ok (.aload_n 0, 1) := by decide +kernel
theorem dX10_plan_116 : decode cX10_plan 116 = .ok (.getfield 21, 3) := by decide +kernel
theorem dX10_plan_119 : decode cX10_plan 119 = .ok (.iload_n 2, 1) := by decide +kernel
theorem dX10_plan_120 : decode cX10_plan 120 = .ok (.invokevirtual 132, 3) := by decide +kernel
theorem dX10_plan_123 : decode cX10_plan 123 = .ok (.invokevirtual 135, 3) := by decide +kernel
theorem dX10_plan_126 : decode cX10_plan 126 = .ok (.pop, 1) := by decide +kernel
theorem dX10_plan_127 : decode cX10_plan 127 = .ok (.iinc 2 1, 3) := by decide +kernel
theorem dX10_plan_130 : decode cX10_plan 130 = .ok (.goto (-56), 3) := by decide +kernel
theorem dX10_plan_133 : decode cX10_plan 133 = .ok (.aload_n 0, 1) := by decide +kernel
theorem dX10_plan_134 : decode cX10_plan 134 = .ok (.getfield 110, 3) := by decide +kernel
theorem dX10_plan_137 : decode cX10_plan 137 = .ok (.ireturn, 1) := by decide +kernel
theorem dX10_fault_0 : decode cX10_fault 0 = .ok (.iload_n 1, 1) := by decide +kernel
theorem dX10_fault_1 : decode cX10_fault 1 = .ok (.lookupswitch 43 #[(0, 27), (1, 35)], 27) := by decide +kernel
theorem dX10_fault_28 : decode cX10_fault 28 = .ok (.aload_n 0, 1) := by decide +kernel
theorem dX10_fault_29 : decode cX10_fault 29 = .ok (.getfield 21, 3) := by decide +kernel
theorem dX10_fault_32 : decode cX10_fault 32 = .ok (.invokevirtual 139, 3) := by decide +kernel
theorem dX10_fault_35 : decode cX10_fault 35 = .ok (.ireturn, 1) := by decide +kernel
theorem dX10_fault_36 : decode cX10_fault 36 = .ok (.aload_n 0, 1) := by decide +kernel
theorem dX10_fault_37 : decode cX10_fault 37 = .ok (.getfield 21, 3) := by decide +kernel
theorem dX10_fault_40 : decode cX10_fault 40 = .ok (.invokevirtual 142, 3) := by decide +kernel
theorem dX10_fault_43 : decode cX10_fault 43 = .ok (.ireturn, 1) := by decide +kernel
theorem dX10_fault_44 : decode cX10_fault 44 = .ok (.iconst (-1), 1) := by decide +kernel
theorem dX10_fault_45 : decode cX10_fault 45 = .ok (.ireturn, 1) := by decide +kernel
theorem dX10_count_0 : decode cX10_count 0 = .ok (.iload_n 1, 1) := by decide +kernel
theorem dX10_count_1 : decode cX10_count 1 = .ok (.tableswitch 104 0 7 #[47, 52, 57, 65, 73, 78, 91, 96], 47) := by decide +kernel
theorem dX10_count_48 : decode cX10_count 48 = .ok (.aload_n 0, 1) := by decide +kernel
theorem dX10_count_49 : decode cX10_count 49 = .ok (.getfield 97, 3) := by decide +kernel
theorem dX10_count_52 : decode cX10_count 52 = .ok (.ireturn, 1) := by decide +kernel
theorem dX10_count_53 : decode cX10_count 53 = .ok (.aload_n 0, 1) := by decide +kernel
theorem dX10_count_54 : decode cX10_count 54 = .ok (.getfield 104, 3) := by decide +kernel
theorem dX10_count_57 : decode cX10_count 57 = .ok (.ireturn, 1) := by decide +kernel
theorem dX10_count_58 : decode cX10_count 58 = .ok (.aload_n 0, 1) := by decide +kernel
theorem dX10_count_59 : decode cX10_count 59 = .ok (.getfield 35, 3) := by decide +kernel
theorem dX10_count_62 : decode cX10_count 62 = .ok (.invokevirtual 145, 3) := by decide +kernel
theorem dX10_count_65 : decode cX10_count 65 = .ok (.ireturn, 1) := by decide +kernel
theorem dX10_count_66 : decode cX10_count 66 = .ok (.aload_n 0, 1) := by decide +kernel
theorem dX10_count_67 : decode cX10_count 67 = .ok (.getfield 28, 3) := by decide +kernel
theorem dX10_count_70 : decode cX10_count 70 = .ok (.invokevirtual 148, 3) := by decide +kernel
theorem dX10_count_73 : decode cX10_count 73 = .ok (.ireturn, 1) := by decide +kernel
theorem dX10_count_74 : decode cX10_count 74 = .ok (.aload_n 0, 1) := by decide +kernel
theorem dX10_count_75 : decode cX10_count 75 = .ok (.getfield 116, 3) := by decide +kernel
theorem dX10_count_78 : decode cX10_count 78 = .ok (.ireturn, 1) := by decide +kernel
theorem dX10_count_79 : decode cX10_count 79 = .ok (.aload_n 0, 1) := by decide +kernel
theorem dX10_count_80 : decode cX10_count 80 = .ok (.getfield 35, 3) := by decide +kernel
theorem dX10_count_83 : decode cX10_count 83 = .ok (.invokevirtual 145, 3) := by decide +kernel
theorem dX10_count_86 : decode cX10_count 86 = .ok (.aload_n 0, 1) := by decide +kernel
theorem dX10_count_87 : decode cX10_count 87 = .ok (.getfield 116, 3) := by decide +kernel
theorem dX10_count_90 : decode cX10_count 90 = .ok (.isub, 1) := by decide +kernel
theorem dX10_count_91 : decode cX10_count 91 = .ok (.ireturn, 1) := by decide +kernel
theorem dX10_count_92 : decode cX10_count 92 = .ok (.aload_n 0, 1) := by decide +kernel
theorem dX10_count_93 : decode cX10_count 93 = .ok (.getfield 110, 3) := by decide +kernel
theorem dX10_count_96 : decode cX10_count 96 = .ok (.ireturn, 1) := by decide +kernel
theorem dX10_count_97 : decode cX10_count 97 = .ok (.aload_n 0, 1) := by decide +kernel
theorem dX10_count_98 : decode cX10_count 98 = .ok (.getfield 10, 3) := by decide +kernel
theorem dX10_count_101 : decode cX10_count 101 = .ok (.invokevirtual 77, 3) := by decide +kernel
theorem dX10_count_104 : decode cX10_count 104 = .ok (.ireturn, 1) := by decide +kernel
theorem dX10_count_105 : decode cX10_count 105 = .ok (.iconst (-1), 1) := by decide +kernel
theorem dX10_count_106 : decode cX10_count 106 = .ok (.ireturn, 1) := by decide +kernel
theorem dX10_version_0 : decode cX10_version 0 = .ok (.aload_n 0, 1) := by decide +kernel
theorem dX10_version_1 : decode cX10_version 1 = .ok (.iload_n 1, 1) := by decide +kernel
theorem dX10_version_2 : decode cX10_version 2 = .ok (.invokevirtual 151, 3) := by decide +kernel
theorem dX10_version_5 : decode cX10_version 5 = .ok (.ifCond .ne 6, 3) := by decide +kernel
theorem dX10_version_8 : decode cX10_version 8 = .ok (.bipush (-2), 2) := by decide +kernel
theorem dX10_version_10 : decode cX10_version 10 = .ok (.ireturn, 1) := by decide +kernel
theorem dX10_version_11 : decode cX10_version 11 = .ok (.iload_n 2, 1) := by decide +kernel
theorem dX10_version_12 : decode cX10_version 12 = .ok (.tableswitch 68 0 3 #[32, 41, 50, 59], 32) := by decide +kernel
theorem dX10_version_44 : decode cX10_version 44 = .ok (.aload_n 0, 1) := by decide +kernel
theorem dX10_version_45 : decode cX10_version 45 = .ok (.getfield 35, 3) := by decide +kernel
theorem dX10_version_48 : decode cX10_version 48 = .ok (.iload_n 1, 1) := by decide +kernel
theorem dX10_version_49 : decode cX10_version 49 = .ok (.invokevirtual 155, 3) := by decide +kernel
theorem dX10_version_52 : decode cX10_version 52 = .ok (.ireturn, 1) := by decide +kernel
theorem dX10_version_53 : decode cX10_version 53 = .ok (.aload_n 0, 1) := by decide +kernel
theorem dX10_version_54 : decode cX10_version 54 = .ok (.getfield 35, 3) := by decide +kernel
theorem dX10_version_57 : decode cX10_version 57 = .ok (.iload_n 1, 1) := by decide +kernel
theorem dX10_version_58 : decode cX10_version 58 = .ok (.invokevirtual 156, 3) := by decide +kernel
theorem dX10_version_61 : decode cX10_version 61 = .ok (.ireturn, 1) := by decide +kernel
theorem dX10_version_62 : decode cX10_version 62 = .ok (.aload_n 0, 1) := by decide +kernel
theorem dX10_version_63 : decode cX10_version 63 = .ok (.getfield 35, 3) := by decide +kernel
theorem dX10_version_66 : decode cX10_version 66 = .ok (.iload_n 1, 1) := by decide +kernel
theorem dX10_version_67 : decode cX10_version 67 = .ok (.invokevirtual 157, 3) := by decide +kernel
theorem dX10_version_70 : decode cX10_version 70 = .ok (.ireturn, 1) := by decide +kernel
theorem dX10_version_71 : decode cX10_version 71 = .ok (.aload_n 0, 1) := by decide +kernel
theorem dX10_version_72 : decode cX10_version 72 = .ok (.getfield 35, 3) := by decide +kernel
theorem dX10_version_75 : decode cX10_version 75 = .ok (.iload_n 1, 1) := by decide +kernel
theorem dX10_version_76 : decode cX10_version 76 = .ok (.invokevirtual 158, 3) := by decide +kernel
theorem dX10_version_79 : decode cX10_version 79 = .ok (.ireturn, 1) := by decide +kernel
theorem dX10_version_80 : decode cX10_version 80 = .ok (.bipush (-2), 2) := by decide +kernel
theorem dX10_version_82 : decode cX10_version 82 = .ok (.ireturn, 1) := by decide +kernel
theorem dX10_job_0 : decode cX10_job 0 = .ok (.aload_n 0, 1) := by decide +kernel
theorem dX10_job_1 : decode cX10_job 1 = .ok (.getfield 28, 3) := by decide +kernel
theorem dX10_job_4 : decode cX10_job 4 = .ok (.iload_n 1, 1) := by decide +kernel
theorem dX10_job_5 : decode cX10_job 5 = .ok (.invokevirtual 161, 3) := by decide +kernel
theorem dX10_job_8 : decode cX10_job 8 = .ok (.ifCond .ne 6, 3) := by decide +kernel
theorem dX10_job_11 : decode cX10_job 11 = .ok (.bipush (-2), 2) := by decide +kernel
theorem dX10_job_13 : decode cX10_job 13 = .ok (.ireturn, 1) := by decide +kernel
theorem dX10_job_14 : decode cX10_job 14 = .ok (.iload_n 2, 1) := by decide +kernel
theorem dX10_job_15 : decode cX10_job 15 = .ok (.lookupswitch 43 #[(0, 25), (1, 34)], 25) := by decide +kernel
theorem dX10_job_40 : decode cX10_job 40 = .ok (.aload_n 0, 1) := by decide +kernel
theorem dX10_job_41 : decode cX10_job 41 = .ok (.getfield 28, 3) := by decide +kernel
theorem dX10_job_44 : decode cX10_job 44 = .ok (.iload_n 1, 1) := by decide +kernel
theorem dX10_job_45 : decode cX10_job 45 = .ok (.invokevirtual 162, 3) := by decide +kernel
theorem dX10_job_48 : decode cX10_job 48 = .ok (.ireturn, 1) := by decide +kernel
theorem dX10_job_49 : decode cX10_job 49 = .ok (.aload_n 0, 1) := by decide +kernel
theorem dX10_job_50 : decode cX10_job 50 = .ok (.getfield 28, 3) := by decide +kernel
theorem dX10_job_53 : decode cX10_job 53 = .ok (.iload_n 1, 1) := by decide +kernel
theorem dX10_job_54 : decode cX10_job 54 = .ok (.invokevirtual 163, 3) := by decide +kernel
theorem dX10_job_57 : decode cX10_job 57 = .ok (.ireturn, 1) := by decide +kernel
theorem dX10_job_58 : decode cX10_job 58 = .ok (.bipush (-2), 2) := by decide +kernel
theorem dX10_job_60 : decode cX10_job 60 = .ok (.ireturn, 1) := by decide +kernel
theorem dX10_size_0 : decode cX10_size 0 = .ok (.aload_n 0, 1) := by decide +kernel
theorem dX10_size_1 : decode cX10_size 1 = .ok (.iload_n 1, 1) := by decide +kernel
theorem dX10_size_2 : decode cX10_size 2 = .ok (.invokevirtual 151, 3) := by decide +kernel
theorem dX10_size_5 : decode cX10_size 5 = .ok (.ifCond .eq 14, 3) := by decide +kernel
theorem dX10_size_8 : decode cX10_size 8 = .ok (.aload_n 0, 1) := by decide +kernel
theorem dX10_size_9 : decode cX10_size 9 = .ok (.getfield 42, 3) := by decide +kernel
theorem dX10_size_12 : decode cX10_size 12 = .ok (.iload_n 1, 1) := by decide +kernel
theorem dX10_size_13 : decode cX10_size 13 = .ok (.invokevirtual 164, 3) := by decide +kernel
theorem dX10_size_16 : decode cX10_size 16 = .ok (.goto 5, 3) := by decide +kernel
theorem dX10_size_19 : decode cX10_size 19 = .ok (.bipush (-2), 2) := by decide +kernel
theorem dX10_size_21 : decode cX10_size 21 = .ok (.ireturn, 1) := by decide +kernel
theorem dX10_least_0 : decode cX10_least 0 = .ok (.aload_n 0, 1) := by decide +kernel
theorem dX10_least_1 : decode cX10_least 1 = .ok (.iload_n 1, 1) := by decide +kernel
theorem dX10_least_2 : decode cX10_least 2 = .ok (.invokevirtual 151, 3) := by decide +kernel
theorem dX10_least_5 : decode cX10_least 5 = .ok (.ifCond .eq 15, 3) := by decide +kernel
theorem dX10_least_8 : decode cX10_least 8 = .ok (.aload_n 0, 1) := by decide +kernel
theorem dX10_least_9 : decode cX10_least 9 = .ok (.getfield 42, 3) := by decide +kernel
theorem dX10_least_12 : decode cX10_least 12 = .ok (.iload_n 1, 1) := by decide +kernel
theorem dX10_least_13 : decode cX10_least 13 = .ok (.iconst 0, 1) := by decide +kernel
theorem dX10_least_14 : decode cX10_least 14 = .ok (.invokevirtual 167, 3) := by decide +kernel
theorem dX10_least_17 : decode cX10_least 17 = .ok (.goto 5, 3) := by decide +kernel
theorem dX10_least_20 : decode cX10_least 20 = .ok (.bipush (-2), 2) := by decide +kernel
theorem dX10_least_22 : decode cX10_least 22 = .ok (.ireturn, 1) := by decide +kernel
theorem dX10_place_0 : decode cX10_place 0 = .ok (.aload_n 0, 1) := by decide +kernel
theorem dX10_place_1 : decode cX10_place 1 = .ok (.iload_n 1, 1) := by decide +kernel
theorem dX10_place_2 : decode cX10_place 2 = .ok (.invokevirtual 151, 3) := by decide +kernel
theorem dX10_place_5 : decode cX10_place 5 = .ok (.ifCond .eq 19, 3) := by decide +kernel
theorem dX10_place_8 : decode cX10_place 8 = .ok (.iload_n 2, 1) := by decide +kernel
theorem dX10_place_9 : decode cX10_place 9 = .ok (.ifCond .lt 15, 3) := by decide +kernel
theorem dX10_place_12 : decode cX10_place 12 = .ok (.aload_n 0, 1) := by decide +kernel
theorem dX10_place_13 : decode cX10_place 13 = .ok (.getfield 42, 3) := by decide +kernel
theorem dX10_place_16 : decode cX10_place 16 = .ok (.iload_n 1, 1) := by decide +kernel
theorem dX10_place_17 : decode cX10_place 17 = .ok (.iload_n 2, 1) := by decide +kernel
theorem dX10_place_18 : decode cX10_place 18 = .ok (.invokevirtual 167, 3) := by decide +kernel
theorem dX10_place_21 : decode cX10_place 21 = .ok (.goto 5, 3) := by decide +kernel
theorem dX10_place_24 : decode cX10_place 24 = .ok (.bipush (-2), 2) := by decide +kernel
theorem dX10_place_26 : decode cX10_place 26 = .ok (.ireturn, 1) := by decide +kernel
theorem dX10_times_0 : decode cX10_times 0 = .ok (.aload_n 0, 1) := by decide +kernel
theorem dX10_times_1 : decode cX10_times 1 = .ok (.iload_n 1, 1) := by decide +kernel
theorem dX10_times_2 : decode cX10_times 2 = .ok (.invokevirtual 151, 3) := by decide +kernel
theorem dX10_times_5 : decode cX10_times 5 = .ok (.ifCond .eq 33, 3) := by decide +kernel
theorem dX10_times_8 : decode cX10_times 8 = .ok (.aload_n 0, 1) := by decide +kernel
theorem dX10_times_9 : decode cX10_times 9 = .ok (.getfield 28, 3) := by decide +kernel
theorem dX10_times_12 : decode cX10_times 12 = .ok (.iload_n 2, 1) := by decide +kernel
theorem dX10_times_13 : decode cX10_times 13 = .ok (.invokevirtual 161, 3) := by decide +kernel
theorem dX10_times_16 : decode cX10_times 16 = .ok (.ifCond .eq 22, 3) := by decide +kernel
theorem dX10_times_19 : decode cX10_times 19 = .ok (.aload_n 0, 1) := by decide +kernel
theorem dX10_times_20 : decode cX10_times 20 = .ok (.getfield 42, 3) := by decide +kernel
theorem dX10_times_23 : decode cX10_times 23 = .ok (.iload_n 1, 1) := by decide +kernel
theorem dX10_times_24 : decode cX10_times 24 = .ok (.aload_n 0, 1) := by decide +kernel
theorem dX10_times_25 : decode cX10_times 25 = .ok (.getfield 28, 3) := by decide +kernel
theorem dX10_times_28 : decode cX10_times 28 = .ok (.iload_n 2, 1) := by decide +kernel
theorem dX10_times_29 : decode cX10_times 29 = .ok (.invokevirtual 171, 3) := by decide +kernel
theorem dX10_times_32 : decode cX10_times 32 = .ok (.invokevirtual 174, 3) := by decide +kernel
theorem dX10_times_35 : decode cX10_times 35 = .ok (.goto 5, 3) := by decide +kernel
theorem dX10_times_38 : decode cX10_times 38 = .ok (.bipush (-2), 2) := by decide +kernel
theorem dX10_times_40 : decode cX10_times 40 = .ok (.ireturn, 1) := by decide +kernel
theorem dX10_trees_0 : decode cX10_trees 0 = .ok (.aload_n 0, 1) := by decide +kernel
theorem dX10_trees_1 : decode cX10_trees 1 = .ok (.iload_n 1, 1) := by decide +kernel
theorem dX10_trees_2 : decode cX10_trees 2 = .ok (.invokevirtual 151, 3) := by decide +kernel
theorem dX10_trees_5 : decode cX10_trees 5 = .ok (.ifCond .eq 14, 3) := by decide +kernel
theorem dX10_trees_8 : decode cX10_trees 8 = .ok (.aload_n 0, 1) := by decide +kernel
theorem dX10_trees_9 : decode cX10_trees 9 = .ok (.invokevirtual 177, 3) := by decide +kernel
theorem dX10_trees_12 : decode cX10_trees 12 = .ok (.iload_n 1, 1) := by decide +kernel
theorem dX10_trees_13 : decode cX10_trees 13 = .ok (.invokevirtual 181, 3) := by decide +kernel
theorem dX10_trees_16 : decode cX10_trees 16 = .ok (.goto 5, 3) := by decide +kernel
theorem dX10_trees_19 : decode cX10_trees 19 = .ok (.bipush (-2), 2) := by decide +kernel
theorem dX10_trees_21 : decode cX10_trees 21 = .ok (.ireturn, 1) := by decide +kernel
theorem dX10_rank_0 : decode cX10_rank 0 = .ok (.aload_n 0, 1) := by decide +kernel
theorem dX10_rank_1 : decode cX10_rank 1 = .ok (.iload_n 1, 1) := by decide +kernel
theorem dX10_rank_2 : decode cX10_rank 2 = .ok (.iload_n 2, 1) := by decide +kernel
theorem dX10_rank_3 : decode cX10_rank 3 = .ok (.invokevirtual 184, 3) := by decide +kernel
theorem dX10_rank_6 : decode cX10_rank 6 = .ok (.istore_n 3, 1) := by decide +kernel
theorem dX10_rank_7 : decode cX10_rank 7 = .ok (.iload_n 3, 1) := by decide +kernel
theorem dX10_rank_8 : decode cX10_rank 8 = .ok (.ifCond .ge 7, 3) := by decide +kernel
theorem dX10_rank_11 : decode cX10_rank 11 = .ok (.iload_n 3, 1) := by decide +kernel
theorem dX10_rank_12 : decode cX10_rank 12 = .ok (.goto 14, 3) := by decide +kernel
theorem dX10_rank_15 : decode cX10_rank 15 = .ok (.aload_n 0, 1) := by decide +kernel
theorem dX10_rank_16 : decode cX10_rank 16 = .ok (.invokevirtual 177, 3) := by decide +kernel
theorem dX10_rank_19 : decode cX10_rank 19 = .ok (.invokevirtual 187, 3) := by decide +kernel
theorem dX10_rank_22 : decode cX10_rank 22 = .ok (.iload_n 3, 1) := by decide +kernel
theorem dX10_rank_23 : decode cX10_rank 23 = .ok (.invokevirtual 191, 3) := by decide +kernel
theorem dX10_rank_26 : decode cX10_rank 26 = .ok (.ireturn, 1) := by decide +kernel
theorem dX10_holds_0 : decode cX10_holds 0 = .ok (.aload_n 0, 1) := by decide +kernel
theorem dX10_holds_1 : decode cX10_holds 1 = .ok (.iload_n 1, 1) := by decide +kernel
theorem dX10_holds_2 : decode cX10_holds 2 = .ok (.iload_n 2, 1) := by decide +kernel
theorem dX10_holds_3 : decode cX10_holds 3 = .ok (.invokevirtual 184, 3) := by decide +kernel
theorem dX10_holds_6 : decode cX10_holds 6 = .ok (.istore_n 3, 1) := by decide +kernel
theorem dX10_holds_7 : decode cX10_holds 7 = .ok (.iload_n 3, 1) := by decide +kernel
theorem dX10_holds_8 : decode cX10_holds 8 = .ok (.ifCond .ge 7, 3) := by decide +kernel
theorem dX10_holds_11 : decode cX10_holds 11 = .ok (.iload_n 3, 1) := by decide +kernel
theorem dX10_holds_12 : decode cX10_holds 12 = .ok (.goto 14, 3) := by decide +kernel
theorem dX10_holds_15 : decode cX10_holds 15 = .ok (.aload_n 0, 1) := by decide +kernel
theorem dX10_holds_16 : decode cX10_holds 16 = .ok (.invokevirtual 177, 3) := by decide +kernel
theorem dX10_holds_19 : decode cX10_holds 19 = .ok (.invokevirtual 187, 3) := by decide +kernel
theorem dX10_holds_22 : decode cX10_holds 22 = .ok (.iload_n 3, 1) := by decide +kernel
theorem dX10_holds_23 : decode cX10_holds 23 = .ok (.invokevirtual 196, 3) := by decide +kernel
theorem dX10_holds_26 : decode cX10_holds 26 = .ok (.ireturn, 1) := by decide +kernel
theorem dX10_singles_0 : decode cX10_singles 0 = .ok (.aload_n 0, 1) := by decide +kernel
theorem dX10_singles_1 : decode cX10_singles 1 = .ok (.iload_n 1, 1) := by decide +kernel
theorem dX10_singles_2 : decode cX10_singles 2 = .ok (.iload_n 2, 1) := by decide +kernel
theorem dX10_singles_3 : decode cX10_singles 3 = .ok (.invokevirtual 184, 3) := by decide +kernel
theorem dX10_singles_6 : decode cX10_singles 6 = .ok (.istore_n 3, 1) := by decide +kernel
theorem dX10_singles_7 : decode cX10_singles 7 = .ok (.iload_n 3, 1) := by decide +kernel
theorem dX10_singles_8 : decode cX10_singles 8 = .ok (.ifCond .ge 7, 3) := by decide +kernel
theorem dX10_singles_11 : decode cX10_singles 11 = .ok (.iload_n 3, 1) := by decide +kernel
theorem dX10_singles_12 : decode cX10_singles 12 = .ok (.goto 24, 3) := by decide +kernel
theorem dX10_singles_15 : decode cX10_singles 15 = .ok (.aload_n 0, 1) := by decide +kernel
theorem dX10_singles_16 : decode cX10_singles 16 = .ok (.invokevirtual 177, 3) := by decide +kernel
theorem dX10_singles_19 : decode cX10_singles 19 = .ok (.invokevirtual 187, 3) := by decide +kernel
theorem dX10_singles_22 : decode cX10_singles 22 = .ok (.aload_n 0, 1) := by decide +kernel
theorem dX10_singles_23 : decode cX10_singles 23 = .ok (.invokevirtual 177, 3) := by decide +kernel
theorem dX10_singles_26 : decode cX10_singles 26 = .ok (.invokevirtual 187, 3) := by decide +kernel
theorem dX10_singles_29 : decode cX10_singles 29 = .ok (.iload_n 3, 1) := by decide +kernel
theorem dX10_singles_30 : decode cX10_singles 30 = .ok (.invokevirtual 199, 3) := by decide +kernel
theorem dX10_singles_33 : decode cX10_singles 33 = .ok (.invokevirtual 202, 3) := by decide +kernel
theorem dX10_singles_36 : decode cX10_singles 36 = .ok (.ireturn, 1) := by decide +kernel
theorem dX10_head_0 : decode cX10_head 0 = .ok (.aload_n 0, 1) := by decide +kernel
theorem dX10_head_1 : decode cX10_head 1 = .ok (.iload_n 1, 1) := by decide +kernel
theorem dX10_head_2 : decode cX10_head 2 = .ok (.iload_n 2, 1) := by decide +kernel
theorem dX10_head_3 : decode cX10_head 3 = .ok (.invokevirtual 184, 3) := by decide +kernel
theorem dX10_head_6 : decode cX10_head 6 = .ok (.istore_n 3, 1) := by decide +kernel
theorem dX10_head_7 : decode cX10_head 7 = .ok (.iload_n 3, 1) := by decide +kernel
theorem dX10_head_8 : decode cX10_head 8 = .ok (.ifCond .ge 7, 3) := by decide +kernel
theorem dX10_head_11 : decode cX10_head 11 = .ok (.iload_n 3, 1) := by decide +kernel
theorem dX10_head_12 : decode cX10_head 12 = .ok (.goto 17, 3) := by decide +kernel
theorem dX10_head_15 : decode cX10_head 15 = .ok (.aload_n 0, 1) := by decide +kernel
theorem dX10_head_16 : decode cX10_head 16 = .ok (.invokevirtual 177, 3) := by decide +kernel
theorem dX10_head_19 : decode cX10_head 19 = .ok (.invokevirtual 187, 3) := by decide +kernel
theorem dX10_head_22 : decode cX10_head 22 = .ok (.iload_n 3, 1) := by decide +kernel
theorem dX10_head_23 : decode cX10_head 23 = .ok (.invokevirtual 205, 3) := by decide +kernel
theorem dX10_head_26 : decode cX10_head 26 = .ok (.invokestatic 206, 3) := by decide +kernel
theorem dX10_head_29 : decode cX10_head 29 = .ok (.ireturn, 1) := by decide +kernel
theorem dX10_depth_0 : decode cX10_depth 0 = .ok (.aload_n 0, 1) := by decide +kernel
theorem dX10_depth_1 : decode cX10_depth 1 = .ok (.iload_n 1, 1) := by decide +kernel
theorem dX10_depth_2 : decode cX10_depth 2 = .ok (.invokevirtual 151, 3) := by decide +kernel
theorem dX10_depth_5 : decode cX10_depth 5 = .ok (.ifCond .eq 24, 3) := by decide +kernel
theorem dX10_depth_8 : decode cX10_depth 8 = .ok (.aload_n 0, 1) := by decide +kernel
theorem dX10_depth_9 : decode cX10_depth 9 = .ok (.invokevirtual 177, 3) := by decide +kernel
theorem dX10_depth_12 : decode cX10_depth 12 = .ok (.invokevirtual 187, 3) := by decide +kernel
theorem dX10_depth_15 : decode cX10_depth 15 = .ok (.aload_n 0, 1) := by decide +kernel
theorem dX10_depth_16 : decode cX10_depth 16 = .ok (.invokevirtual 177, 3) := by decide +kernel
theorem dX10_depth_19 : decode cX10_depth 19 = .ok (.iload_n 1, 1) := by decide +kernel
theorem dX10_depth_20 : decode cX10_depth 20 = .ok (.invokevirtual 209, 3) := by decide +kernel
theorem dX10_depth_23 : decode cX10_depth 23 = .ok (.invokevirtual 212, 3) := by decide +kernel
theorem dX10_depth_26 : decode cX10_depth 26 = .ok (.goto 5, 3) := by decide +kernel
theorem dX10_depth_29 : decode cX10_depth 29 = .ok (.bipush (-2), 2) := by decide +kernel
theorem dX10_depth_31 : decode cX10_depth 31 = .ok (.ireturn, 1) := by decide +kernel
theorem dX10_parts_0 : decode cX10_parts 0 = .ok (.aload_n 0, 1) := by decide +kernel
theorem dX10_parts_1 : decode cX10_parts 1 = .ok (.iload_n 1, 1) := by decide +kernel
theorem dX10_parts_2 : decode cX10_parts 2 = .ok (.invokevirtual 151, 3) := by decide +kernel
theorem dX10_parts_5 : decode cX10_parts 5 = .ok (.ifCond .ne 6, 3) := by decide +kernel
theorem dX10_parts_8 : decode cX10_parts 8 = .ok (.bipush (-2), 2) := by decide +kernel
theorem dX10_parts_10 : decode cX10_parts 10 = .ok (.ireturn, 1) := by decide +kernel
theorem dX10_parts_11 : decode cX10_parts 11 = .ok (.aload_n 0, 1) := by decide +kernel
theorem dX10_parts_12 : decode cX10_parts 12 = .ok (.getfield 64, 3) := by decide +kernel
theorem dX10_parts_15 : decode cX10_parts 15 = .ok (.invokevirtual 215, 3) := by decide +kernel
theorem dX10_parts_18 : decode cX10_parts 18 = .ok (.aload_n 0, 1) := by decide +kernel
theorem dX10_parts_19 : decode cX10_parts 19 = .ok (.iload_n 1, 1) := by decide +kernel
theorem dX10_parts_20 : decode cX10_parts 20 = .ok (.invokevirtual 218, 3) := by decide +kernel
theorem dX10_parts_23 : decode cX10_parts 23 = .ok (.ireturn, 1) := by decide +kernel
theorem dX10_own_0 : decode cX10_own 0 = .ok (.aload_n 0, 1) := by decide +kernel
theorem dX10_own_1 : decode cX10_own 1 = .ok (.iload_n 1, 1) := by decide +kernel
theorem dX10_own_2 : decode cX10_own 2 = .ok (.invokevirtual 151, 3) := by decide +kernel
theorem dX10_own_5 : decode cX10_own 5 = .ok (.ifCond .ne 6, 3) := by decide +kernel
theorem dX10_own_8 : decode cX10_own 8 = .ok (.bipush (-2), 2) := by decide +kernel
theorem dX10_own_10 : decode cX10_own 10 = .ok (.ireturn, 1) := by decide +kernel
theorem dX10_own_11 : decode cX10_own 11 = .ok (.aload_n 0, 1) := by decide +kernel
theorem dX10_own_12 : decode cX10_own 12 = .ok (.getfield 64, 3) := by decide +kernel
theorem dX10_own_15 : decode cX10_own 15 = .ok (.invokevirtual 215, 3) := by decide +kernel
theorem dX10_own_18 : decode cX10_own 18 = .ok (.aload_n 0, 1) := by decide +kernel
theorem dX10_own_19 : decode cX10_own 19 = .ok (.aload_n 0, 1) := by decide +kernel
theorem dX10_own_20 : decode cX10_own 20 = .ok (.getfield 35, 3) := by decide +kernel
theorem dX10_own_23 : decode cX10_own 23 = .ok (.iload_n 1, 1) := by decide +kernel
theorem dX10_own_24 : decode cX10_own 24 = .ok (.invokevirtual 156, 3) := by decide +kernel
theorem dX10_own_27 : decode cX10_own 27 = .ok (.invokevirtual 218, 3) := by decide +kernel
theorem dX10_own_30 : decode cX10_own 30 = .ok (.pop, 1) := by decide +kernel
theorem dX10_own_31 : decode cX10_own 31 = .ok (.aload_n 0, 1) := by decide +kernel
theorem dX10_own_32 : decode cX10_own 32 = .ok (.aload_n 0, 1) := by decide +kernel
theorem dX10_own_33 : decode cX10_own 33 = .ok (.getfield 35, 3) := by decide +kernel
theorem dX10_own_36 : decode cX10_own 36 = .ok (.iload_n 1, 1) := by decide +kernel
theorem dX10_own_37 : decode cX10_own 37 = .ok (.invokevirtual 157, 3) := by decide +kernel
theorem dX10_own_40 : decode cX10_own 40 = .ok (.invokevirtual 218, 3) := by decide +kernel
theorem dX10_own_43 : decode cX10_own 43 = .ok (.istore_n 2, 1) := by decide +kernel
theorem dX10_own_44 : decode cX10_own 44 = .ok (.aload_n 0, 1) := by decide +kernel
theorem dX10_own_45 : decode cX10_own 45 = .ok (.iload_n 1, 1) := by decide +kernel
theorem dX10_own_46 : decode cX10_own 46 = .ok (.invokevirtual 218, 3) := by decide +kernel
theorem dX10_own_49 : decode cX10_own 49 = .ok (.iload_n 2, 1) := by decide +kernel
theorem dX10_own_50 : decode cX10_own 50 = .ok (.isub, 1) := by decide +kernel
theorem dX10_own_51 : decode cX10_own 51 = .ok (.ireturn, 1) := by decide +kernel
theorem dX10_shared_0 : decode cX10_shared 0 = .ok (.aload_n 0, 1) := by decide +kernel
theorem dX10_shared_1 : decode cX10_shared 1 = .ok (.iload_n 1, 1) := by decide +kernel
theorem dX10_shared_2 : decode cX10_shared 2 = .ok (.invokevirtual 151, 3) := by decide +kernel
theorem dX10_shared_5 : decode cX10_shared 5 = .ok (.ifCond .eq 11, 3) := by decide +kernel
theorem dX10_shared_8 : decode cX10_shared 8 = .ok (.aload_n 0, 1) := by decide +kernel
theorem dX10_shared_9 : decode cX10_shared 9 = .ok (.iload_n 2, 1) := by decide +kernel
theorem dX10_shared_10 : decode cX10_shared 10 = .ok (.invokevirtual 151, 3) := by decide +kernel
theorem dX10_shared_13 : decode cX10_shared 13 = .ok (.ifCond .ne 6, 3) := by decide +kernel
theorem dX10_shared_16 : decode cX10_shared 16 = .ok (.bipush (-2), 2) := by decide +kernel
theorem dX10_shared_18 : decode cX10_shared 18 = .ok (.ireturn, 1) := by decide +kernel
theorem dX10_shared_19 : decode cX10_shared 19 = .ok (.aload_n 0, 1) := by decide +kernel
theorem dX10_shared_20 : decode cX10_shared 20 = .ok (.getfield 64, 3) := by decide +kernel
theorem dX10_shared_23 : decode cX10_shared 23 = .ok (.invokevirtual 215, 3) := by decide +kernel
theorem dX10_shared_26 : decode cX10_shared 26 = .ok (.aload_n 0, 1) := by decide +kernel
theorem dX10_shared_27 : decode cX10_shared 27 = .ok (.iload_n 1, 1) := by decide +kernel
theorem dX10_shared_28 : decode cX10_shared 28 = .ok (.invokevirtual 218, 3) := by decide +kernel
theorem dX10_shared_31 : decode cX10_shared 31 = .ok (.istore_n 3, 1) := by decide +kernel
theorem dX10_shared_32 : decode cX10_shared 32 = .ok (.aload_n 0, 1) := by decide +kernel
theorem dX10_shared_33 : decode cX10_shared 33 = .ok (.getfield 64, 3) := by decide +kernel
theorem dX10_shared_36 : decode cX10_shared 36 = .ok (.invokevirtual 215, 3) := by decide +kernel
theorem dX10_shared_39 : decode cX10_shared 39 = .ok (.aload_n 0, 1) := by decide +kernel
theorem dX10_shared_40 : decode cX10_shared 40 = .ok (.iload_n 2, 1) := by decide +kernel
theorem dX10_shared_41 : decode cX10_shared 41 = .ok (.invokevirtual 218, 3) := by decide +kernel
theorem dX10_shared_44 : decode cX10_shared 44 = .ok (.istore 4, 2) := by decide +kernel
theorem dX10_shared_46 : decode cX10_shared 46 = .ok (.aload_n 0, 1) := by decide +kernel
theorem dX10_shared_47 : decode cX10_shared 47 = .ok (.iload_n 1, 1) := by decide +kernel
theorem dX10_shared_48 : decode cX10_shared 48 = .ok (.invokevirtual 218, 3) := by decide +kernel
theorem dX10_shared_51 : decode cX10_shared 51 = .ok (.istore 5, 2) := by decide +kernel
theorem dX10_shared_53 : decode cX10_shared 53 = .ok (.iload_n 3, 1) := by decide +kernel
theorem dX10_shared_54 : decode cX10_shared 54 = .ok (.iload 4, 2) := by decide +kernel
theorem dX10_shared_56 : decode cX10_shared 56 = .ok (.iadd, 1) := by decide +kernel
theorem dX10_shared_57 : decode cX10_shared 57 = .ok (.iload 5, 2) := by decide +kernel
theorem dX10_shared_59 : decode cX10_shared 59 = .ok (.isub, 1) := by decide +kernel
theorem dX10_shared_60 : decode cX10_shared 60 = .ok (.ireturn, 1) := by decide +kernel
theorem dX10_links_0 : decode cX10_links 0 = .ok (.aload_n 0, 1) := by decide +kernel
theorem dX10_links_1 : decode cX10_links 1 = .ok (.iload_n 1, 1) := by decide +kernel
theorem dX10_links_2 : decode cX10_links 2 = .ok (.invokevirtual 151, 3) := by decide +kernel
theorem dX10_links_5 : decode cX10_links 5 = .ok (.ifCond .eq 14, 3) := by decide +kernel
theorem dX10_links_8 : decode cX10_links 8 = .ok (.aload_n 0, 1) := by decide +kernel
theorem dX10_links_9 : decode cX10_links 9 = .ok (.invokevirtual 177, 3) := by decide +kernel
theorem dX10_links_12 : decode cX10_links 12 = .ok (.iload_n 1, 1) := by decide +kernel
theorem dX10_links_13 : decode cX10_links 13 = .ok (.invokevirtual 221, 3) := by decide +kernel
theorem dX10_links_16 : decode cX10_links 16 = .ok (.goto 5, 3) := by decide +kernel
theorem dX10_links_19 : decode cX10_links 19 = .ok (.bipush (-2), 2) := by decide +kernel
theorem dX10_links_21 : decode cX10_links 21 = .ok (.ireturn, 1) := by decide +kernel
theorem dX10_all_0 : decode cX10_all 0 = .ok (.aload_n 0, 1) := by decide +kernel
theorem dX10_all_1 : decode cX10_all 1 = .ok (.getfield 110, 3) := by decide +kernel
theorem dX10_all_4 : decode cX10_all 4 = .ok (.ifCond .ne 8, 3) := by decide +kernel
theorem dX10_all_7 : decode cX10_all 7 = .ok (.bipush (-2), 2) := by decide +kernel
theorem dX10_all_9 : decode cX10_all 9 = .ok (.goto 10, 3) := by decide +kernel
theorem dX10_all_12 : decode cX10_all 12 = .ok (.aload_n 0, 1) := by decide +kernel
theorem dX10_all_13 : decode cX10_all 13 = .ok (.invokevirtual 177, 3) := by decide +kernel
theorem dX10_all_16 : decode cX10_all 16 = .ok (.invokevirtual 224, 3) := by decide +kernel
theorem dX10_all_19 : decode cX10_all 19 = .ok (.ireturn, 1) := by decide +kernel
theorem dX10_by_0 : decode cX10_by 0 = .ok (.aload_n 0, 1) := by decide +kernel
theorem dX10_by_1 : decode cX10_by 1 = .ok (.iload_n 2, 1) := by decide +kernel
theorem dX10_by_2 : decode cX10_by 2 = .ok (.invokevirtual 151, 3) := by decide +kernel
theorem dX10_by_5 : decode cX10_by 5 = .ok (.ifCond .eq 12, 3) := by decide +kernel
theorem dX10_by_8 : decode cX10_by 8 = .ok (.iload_n 1, 1) := by decide +kernel
theorem dX10_by_9 : decode cX10_by 9 = .ok (.ifCond .lt 8, 3) := by decide +kernel
theorem dX10_by_12 : decode cX10_by 12 = .ok (.iload_n 1, 1) := by decide +kernel
theorem dX10_by_13 : decode cX10_by 13 = .ok (.iconst 1, 1) := by decide +kernel
theorem dX10_by_14 : decode cX10_by 14 = .ok (.if_icmp .le 6, 3) := by decide +kernel
theorem dX10_by_17 : decode cX10_by 17 = .ok (.bipush (-2), 2) := by decide +kernel
theorem dX10_by_19 : decode cX10_by 19 = .ok (.ireturn, 1) := by decide +kernel
theorem dX10_by_20 : decode cX10_by 20 = .ok (.iload_n 1, 1) := by decide +kernel
theorem dX10_by_21 : decode cX10_by 21 = .ok (.ifCond .ne 14, 3) := by decide +kernel
theorem dX10_by_24 : decode cX10_by 24 = .ok (.aload_n 0, 1) := by decide +kernel
theorem dX10_by_25 : decode cX10_by 25 = .ok (.getfield 54, 3) := by decide +kernel
theorem dX10_by_28 : decode cX10_by 28 = .ok (.iload_n 2, 1) := by decide +kernel
theorem dX10_by_29 : decode cX10_by 29 = .ok (.invokevirtual 221, 3) := by decide +kernel
theorem dX10_by_32 : decode cX10_by 32 = .ok (.goto 11, 3) := by decide +kernel
theorem dX10_by_35 : decode cX10_by 35 = .ok (.aload_n 0, 1) := by decide +kernel
theorem dX10_by_36 : decode cX10_by 36 = .ok (.getfield 58, 3) := by decide +kernel
theorem dX10_by_39 : decode cX10_by 39 = .ok (.iload_n 2, 1) := by decide +kernel
theorem dX10_by_40 : decode cX10_by 40 = .ok (.invokevirtual 221, 3) := by decide +kernel
theorem dX10_by_43 : decode cX10_by 43 = .ok (.ireturn, 1) := by decide +kernel
theorem dX10_lean_0 : decode cX10_lean 0 = .ok (.aload_n 0, 1) := by decide +kernel
theorem dX10_lean_1 : decode cX10_lean 1 = .ok (.getfield 110, 3) := by decide +kernel
theorem dX10_lean_4 : decode cX10_lean 4 = .ok (.ifCond .ne 6, 3) := by decide +kernel
theorem dX10_lean_7 : decode cX10_lean 7 = .ok (.bipush (-2), 2) := by decide +kernel
theorem dX10_lean_9 : decode cX10_lean 9 = .ok (.ireturn, 1) := by decide +kernel
theorem dX10_lean_10 : decode cX10_lean 10 = .ok (.aload_n 0, 1) := by decide +kernel
theorem dX10_lean_11 : decode cX10_lean 11 = .ok (.getfield 58, 3) := by decide +kernel
theorem dX10_lean_14 : decode cX10_lean 14 = .ok (.invokevirtual 224, 3) := by decide +kernel
theorem dX10_lean_17 : decode cX10_lean 17 = .ok (.aload_n 0, 1) := by decide +kernel
theorem dX10_lean_18 : decode cX10_lean 18 = .ok (.getfield 54, 3) := by decide +kernel
theorem dX10_lean_21 : decode cX10_lean 21 = .ok (.invokevirtual 224, 3) := by decide +kernel
theorem dX10_lean_24 : decode cX10_lean 24 = .ok (.if_icmp .ge 7, 3) := by decide +kernel
theorem dX10_lean_27 : decode cX10_lean 27 = .ok (.iconst 1, 1) := by decide +kernel
theorem dX10_lean_28 : decode cX10_lean 28 = .ok (.goto 4, 3) := by decide +kernel
theorem dX10_lean_31 : decode cX10_lean 31 = .ok (.iconst 0, 1) := by decide +kernel
theorem dX10_lean_32 : decode cX10_lean 32 = .ok (.ireturn, 1) := by decide +kernel
theorem dX10_drain_0 : decode cX10_drain 0 = .ok (.aload_n 0, 1) := by decide +kernel
theorem dX10_drain_1 : decode cX10_drain 1 = .ok (.iload_n 1, 1) := by decide +kernel
theorem dX10_drain_2 : decode cX10_drain 2 = .ok (.invokevirtual 151, 3) := by decide +kernel
theorem dX10_drain_5 : decode cX10_drain 5 = .ok (.ifCond .eq 14, 3) := by decide +kernel
theorem dX10_drain_8 : decode cX10_drain 8 = .ok (.aload_n 0, 1) := by decide +kernel
theorem dX10_drain_9 : decode cX10_drain 9 = .ok (.invokevirtual 177, 3) := by decide +kernel
theorem dX10_drain_12 : decode cX10_drain 12 = .ok (.iload_n 1, 1) := by decide +kernel
theorem dX10_drain_13 : decode cX10_drain 13 = .ok (.invokevirtual 227, 3) := by decide +kernel
theorem dX10_drain_16 : decode cX10_drain 16 = .ok (.goto 5, 3) := by decide +kernel
theorem dX10_drain_19 : decode cX10_drain 19 = .ok (.bipush (-2), 2) := by decide +kernel
theorem dX10_drain_21 : decode cX10_drain 21 = .ok (.ireturn, 1) := by decide +kernel
theorem dX10_dearest_0 : decode cX10_dearest 0 = .ok (.aload_n 0, 1) := by decide +kernel
theorem dX10_dearest_1 : decode cX10_dearest 1 = .ok (.iload_n 1, 1) := by decide +kernel
theorem dX10_dearest_2 : decode cX10_dearest 2 = .ok (.invokevirtual 151, 3) := by decide +kernel
theorem dX10_dearest_5 : decode cX10_dearest 5 = .ok (.ifCond .eq 14, 3) := by decide +kernel
theorem dX10_dearest_8 : decode cX10_dearest 8 = .ok (.aload_n 0, 1) := by decide +kernel
theorem dX10_dearest_9 : decode cX10_dearest 9 = .ok (.invokevirtual 177, 3) := by decide +kernel
theorem dX10_dearest_12 : decode cX10_dearest 12 = .ok (.iload_n 1, 1) := by decide +kernel
theorem dX10_dearest_13 : decode cX10_dearest 13 = .ok (.invokevirtual 230, 3) := by decide +kernel
theorem dX10_dearest_16 : decode cX10_dearest 16 = .ok (.goto 5, 3) := by decide +kernel
theorem dX10_dearest_19 : decode cX10_dearest 19 = .ok (.bipush (-2), 2) := by decide +kernel
theorem dX10_dearest_21 : decode cX10_dearest 21 = .ok (.ireturn, 1) := by decide +kernel
theorem dX10_same_0 : decode cX10_same 0 = .ok (.aload_n 0, 1) := by decide +kernel
theorem dX10_same_1 : decode cX10_same 1 = .ok (.iload_n 1, 1) := by decide +kernel
theorem dX10_same_2 : decode cX10_same 2 = .ok (.invokevirtual 151, 3) := by decide +kernel
theorem dX10_same_5 : decode cX10_same 5 = .ok (.ifCond .eq 11, 3) := by decide +kernel
theorem dX10_same_8 : decode cX10_same 8 = .ok (.aload_n 0, 1) := by decide +kernel
theorem dX10_same_9 : decode cX10_same 9 = .ok (.iload_n 2, 1) := by decide +kernel
theorem dX10_same_10 : decode cX10_same 10 = .ok (.invokevirtual 151, 3) := by decide +kernel
theorem dX10_same_13 : decode cX10_same 13 = .ok (.ifCond .ne 6, 3) := by decide +kernel
theorem dX10_same_16 : decode cX10_same 16 = .ok (.bipush (-2), 2) := by decide +kernel
theorem dX10_same_18 : decode cX10_same 18 = .ok (.ireturn, 1) := by decide +kernel
theorem dX10_same_19 : decode cX10_same 19 = .ok (.aload_n 0, 1) := by decide +kernel
theorem dX10_same_20 : decode cX10_same 20 = .ok (.getfield 42, 3) := by decide +kernel
theorem dX10_same_23 : decode cX10_same 23 = .ok (.iload_n 1, 1) := by decide +kernel
theorem dX10_same_24 : decode cX10_same 24 = .ok (.iload_n 2, 1) := by decide +kernel
theorem dX10_same_25 : decode cX10_same 25 = .ok (.invokevirtual 233, 3) := by decide +kernel
theorem dX10_same_28 : decode cX10_same 28 = .ok (.ifCond .ne 19, 3) := by decide +kernel
theorem dX10_same_31 : decode cX10_same 31 = .ok (.aload_n 0, 1) := by decide +kernel
theorem dX10_same_32 : decode cX10_same 32 = .ok (.getfield 42, 3) := by decide +kernel
theorem dX10_same_35 : decode cX10_same 35 = .ok (.iload_n 2, 1) := by decide +kernel
theorem dX10_same_36 : decode cX10_same 36 = .ok (.iload_n 1, 1) := by decide +kernel
theorem dX10_same_37 : decode cX10_same 37 = .ok (.invokevirtual 233, 3) := by decide +kernel
theorem dX10_same_40 : decode cX10_same 40 = .ok (.ifCond .ne 7, 3) := by decide +kernel
theorem dX10_same_43 : decode cX10_same 43 = .ok (.iconst 1, 1) := by decide +kernel
theorem dX10_same_44 : decode cX10_same 44 = .ok (.goto 4, 3) := by decide +kernel
theorem dX10_same_47 : decode cX10_same 47 = .ok (.iconst 0, 1) := by decide +kernel
theorem dX10_same_48 : decode cX10_same 48 = .ok (.ireturn, 1) := by decide +kernel
theorem dX10_more_0 : decode cX10_more 0 = .ok (.aload_n 0, 1) := by decide +kernel
theorem dX10_more_1 : decode cX10_more 1 = .ok (.iload_n 1, 1) := by decide +kernel
theorem dX10_more_2 : decode cX10_more 2 = .ok (.invokevirtual 151, 3) := by decide +kernel
theorem dX10_more_5 : decode cX10_more 5 = .ok (.ifCond .eq 23, 3) := by decide +kernel
theorem dX10_more_8 : decode cX10_more 8 = .ok (.aload_n 0, 1) := by decide +kernel
theorem dX10_more_9 : decode cX10_more 9 = .ok (.iload_n 2, 1) := by decide +kernel
theorem dX10_more_10 : decode cX10_more 10 = .ok (.invokevirtual 151, 3) := by decide +kernel
theorem dX10_more_13 : decode cX10_more 13 = .ok (.ifCond .eq 15, 3) := by decide +kernel
theorem dX10_more_16 : decode cX10_more 16 = .ok (.aload_n 0, 1) := by decide +kernel
theorem dX10_more_17 : decode cX10_more 17 = .ok (.getfield 42, 3) := by decide +kernel
theorem dX10_more_20 : decode cX10_more 20 = .ok (.iload_n 1, 1) := by decide +kernel
theorem dX10_more_21 : decode cX10_more 21 = .ok (.iload_n 2, 1) := by decide +kernel
theorem dX10_more_22 : decode cX10_more 22 = .ok (.invokevirtual 233, 3) := by decide +kernel
theorem dX10_more_25 : decode cX10_more 25 = .ok (.goto 5, 3) := by decide +kernel
theorem dX10_more_28 : decode cX10_more 28 = .ok (.bipush (-2), 2) := by decide +kernel
theorem dX10_more_30 : decode cX10_more 30 = .ok (.ireturn, 1) := by decide +kernel
theorem dX10_from_0 : decode cX10_from 0 = .ok (.aload_n 0, 1) := by decide +kernel
theorem dX10_from_1 : decode cX10_from 1 = .ok (.iload_n 1, 1) := by decide +kernel
theorem dX10_from_2 : decode cX10_from 2 = .ok (.invokevirtual 151, 3) := by decide +kernel
theorem dX10_from_5 : decode cX10_from 5 = .ok (.ifCond .eq 11, 3) := by decide +kernel
theorem dX10_from_8 : decode cX10_from 8 = .ok (.aload_n 0, 1) := by decide +kernel
theorem dX10_from_9 : decode cX10_from 9 = .ok (.iload_n 2, 1) := by decide +kernel
theorem dX10_from_10 : decode cX10_from 10 = .ok (.invokevirtual 151, 3) := by decide +kernel
theorem dX10_from_13 : decode cX10_from 13 = .ok (.ifCond .ne 6, 3) := by decide +kernel
theorem dX10_from_16 : decode cX10_from 16 = .ok (.bipush (-2), 2) := by decide +kernel
theorem dX10_from_18 : decode cX10_from 18 = .ok (.ireturn, 1) := by decide +kernel
theorem dX10_from_19 : decode cX10_from 19 = .ok (.iload_n 1, 1) := by decide +kernel
theorem dX10_from_20 : decode cX10_from 20 = .ok (.iload_n 2, 1) := by decide +kernel
theorem dX10_from_21 : decode cX10_from 21 = .ok (.if_icmp .eq 15, 3) := by decide +kernel
theorem dX10_from_24 : decode cX10_from 24 = .ok (.aload_n 0, 1) := by decide +kernel
theorem dX10_from_25 : decode cX10_from 25 = .ok (.getfield 35, 3) := by decide +kernel
theorem dX10_from_28 : decode cX10_from 28 = .ok (.iload_n 1, 1) := by decide +kernel
theorem dX10_from_29 : decode cX10_from 29 = .ok (.iload_n 2, 1) := by decide +kernel
theorem dX10_from_30 : decode cX10_from 30 = .ok (.invokevirtual 236, 3) := by decide +kernel
theorem dX10_from_33 : decode cX10_from 33 = .ok (.ifCond .eq 7, 3) := by decide +kernel
theorem dX10_from_36 : decode cX10_from 36 = .ok (.iconst 1, 1) := by decide +kernel
theorem dX10_from_37 : decode cX10_from 37 = .ok (.goto 4, 3) := by decide +kernel
theorem dX10_from_40 : decode cX10_from 40 = .ok (.iconst 0, 1) := by decide +kernel
theorem dX10_from_41 : decode cX10_from 41 = .ok (.ireturn, 1) := by decide +kernel
theorem dX10_roots_0 : decode cX10_roots 0 = .ok (.aload_n 0, 1) := by decide +kernel
theorem dX10_roots_1 : decode cX10_roots 1 = .ok (.iload_n 1, 1) := by decide +kernel
theorem dX10_roots_2 : decode cX10_roots 2 = .ok (.invokevirtual 151, 3) := by decide +kernel
theorem dX10_roots_5 : decode cX10_roots 5 = .ok (.ifCond .eq 14, 3) := by decide +kernel
theorem dX10_roots_8 : decode cX10_roots 8 = .ok (.aload_n 0, 1) := by decide +kernel
theorem dX10_roots_9 : decode cX10_roots 9 = .ok (.getfield 35, 3) := by decide +kernel
theorem dX10_roots_12 : decode cX10_roots 12 = .ok (.iload_n 1, 1) := by decide +kernel
theorem dX10_roots_13 : decode cX10_roots 13 = .ok (.invokevirtual 240, 3) := by decide +kernel
theorem dX10_roots_16 : decode cX10_roots 16 = .ok (.goto 5, 3) := by decide +kernel
theorem dX10_roots_19 : decode cX10_roots 19 = .ok (.bipush (-2), 2) := by decide +kernel
theorem dX10_roots_21 : decode cX10_roots 21 = .ok (.ireturn, 1) := by decide +kernel
theorem dX10_without_0 : decode cX10_without 0 = .ok (.aload_n 0, 1) := by decide +kernel
theorem dX10_without_1 : decode cX10_without 1 = .ok (.iload_n 1, 1) := by decide +kernel
theorem dX10_without_2 : decode cX10_without 2 = .ok (.iload_n 2, 1) := by decide +kernel
theorem dX10_without_3 : decode cX10_without 3 = .ok (.invokevirtual 243, 3) := by decide +kernel
theorem dX10_without_6 : decode cX10_without 6 = .ok (.ifCond .eq 15, 3) := by decide +kernel
theorem dX10_without_9 : decode cX10_without 9 = .ok (.aload_n 0, 1) := by decide +kernel
theorem dX10_without_10 : decode cX10_without 10 = .ok (.getfield 46, 3) := by decide +kernel
theorem dX10_without_13 : decode cX10_without 13 = .ok (.iload_n 1, 1) := by decide +kernel
theorem dX10_without_14 : decode cX10_without 14 = .ok (.iconst 0, 1) := by decide +kernel
theorem dX10_without_15 : decode cX10_without 15 = .ok (.invokevirtual 167, 3) := by decide +kernel
theorem dX10_without_18 : decode cX10_without 18 = .ok (.goto 5, 3) := by decide +kernel
theorem dX10_without_21 : decode cX10_without 21 = .ok (.bipush (-2), 2) := by decide +kernel
theorem dX10_without_23 : decode cX10_without 23 = .ok (.ireturn, 1) := by decide +kernel
theorem dX10_left_0 : decode cX10_left 0 = .ok (.aload_n 0, 1) := by decide +kernel
theorem dX10_left_1 : decode cX10_left 1 = .ok (.iload_n 1, 1) := by decide +kernel
theorem dX10_left_2 : decode cX10_left 2 = .ok (.iload_n 2, 1) := by decide +kernel
theorem dX10_left_3 : decode cX10_left 3 = .ok (.invokevirtual 243, 3) := by decide +kernel
theorem dX10_left_6 : decode cX10_left 6 = .ok (.ifCond .eq 14, 3) := by decide +kernel
theorem dX10_left_9 : decode cX10_left 9 = .ok (.aload_n 0, 1) := by decide +kernel
theorem dX10_left_10 : decode cX10_left 10 = .ok (.getfield 46, 3) := by decide +kernel
theorem dX10_left_13 : decode cX10_left 13 = .ok (.iload_n 1, 1) := by decide +kernel
theorem dX10_left_14 : decode cX10_left 14 = .ok (.invokevirtual 164, 3) := by decide +kernel
theorem dX10_left_17 : decode cX10_left 17 = .ok (.goto 5, 3) := by decide +kernel
theorem dX10_left_20 : decode cX10_left 20 = .ok (.bipush (-2), 2) := by decide +kernel
theorem dX10_left_22 : decode cX10_left 22 = .ok (.ireturn, 1) := by decide +kernel
theorem dX10_done_0 : decode cX10_done 0 = .ok (.aload_n 0, 1) := by decide +kernel
theorem dX10_done_1 : decode cX10_done 1 = .ok (.iload_n 1, 1) := by decide +kernel
theorem dX10_done_2 : decode cX10_done 2 = .ok (.invokevirtual 151, 3) := by decide +kernel
theorem dX10_done_5 : decode cX10_done 5 = .ok (.ifCond .ne 6, 3) := by decide +kernel
theorem dX10_done_8 : decode cX10_done 8 = .ok (.bipush (-2), 2) := by decide +kernel
theorem dX10_done_10 : decode cX10_done 10 = .ok (.ireturn, 1) := by decide +kernel
theorem dX10_done_11 : decode cX10_done 11 = .ok (.aload_n 0, 1) := by decide +kernel
theorem dX10_done_12 : decode cX10_done 12 = .ok (.getfield 73, 3) := by decide +kernel
theorem dX10_done_15 : decode cX10_done 15 = .ok (.aload_n 0, 1) := by decide +kernel
theorem dX10_done_16 : decode cX10_done 16 = .ok (.getfield 42, 3) := by decide +kernel
theorem dX10_done_19 : decode cX10_done 19 = .ok (.iload_n 1, 1) := by decide +kernel
theorem dX10_done_20 : decode cX10_done 20 = .ok (.aload_n 0, 1) := by decide +kernel
theorem dX10_done_21 : decode cX10_done 21 = .ok (.getfield 104, 3) := by decide +kernel
theorem dX10_done_24 : decode cX10_done 24 = .ok (.invokevirtual 246, 3) := by decide +kernel
theorem dX10_done_27 : decode cX10_done 27 = .ok (.iload_n 2, 1) := by decide +kernel
theorem dX10_done_28 : decode cX10_done 28 = .ok (.tableswitch 64 0 3 #[32, 40, 48, 56], 32) := by decide +kernel
theorem dX10_done_60 : decode cX10_done 60 = .ok (.aload_n 0, 1) := by decide +kernel
theorem dX10_done_61 : decode cX10_done 61 = .ok (.getfield 73, 3) := by decide +kernel
theorem dX10_done_64 : decode cX10_done 64 = .ok (.invokevirtual 250, 3) := by decide +kernel
theorem dX10_done_67 : decode cX10_done 67 = .ok (.ireturn, 1) := by decide +kernel
theorem dX10_done_68 : decode cX10_done 68 = .ok (.aload_n 0, 1) := by decide +kernel
theorem dX10_done_69 : decode cX10_done 69 = .ok (.getfield 73, 3) := by decide +kernel
theorem dX10_done_72 : decode cX10_done 72 = .ok (.invokevirtual 253, 3) := by decide +kernel
theorem dX10_done_75 : decode cX10_done 75 = .ok (.ireturn, 1) := by decide +kernel
theorem dX10_done_76 : decode cX10_done 76 = .ok (.aload_n 0, 1) := by decide +kernel
theorem dX10_done_77 : decode cX10_done 77 = .ok (.getfield 73, 3) := by decide +kernel
theorem dX10_done_80 : decode cX10_done 80 = .ok (.invokevirtual 256, 3) := by decide +kernel
theorem dX10_done_83 : decode cX10_done 83 = .ok (.ireturn, 1) := by decide +kernel
theorem dX10_done_84 : decode cX10_done 84 = .ok (.aload_n 0, 1) := by decide +kernel
theorem dX10_done_85 : decode cX10_done 85 = .ok (.getfield 73, 3) := by decide +kernel
theorem dX10_done_88 : decode cX10_done 88 = .ok (.invokevirtual 259, 3) := by decide +kernel
theorem dX10_done_91 : decode cX10_done 91 = .ok (.ireturn, 1) := by decide +kernel
theorem dX10_done_92 : decode cX10_done 92 = .ok (.bipush (-2), 2) := by decide +kernel
theorem dX10_done_94 : decode cX10_done 94 = .ok (.ireturn, 1) := by decide +kernel
theorem dX10_hand_0 : decode cX10_hand 0 = .ok (.aload_n 0, 1) := by decide +kernel
theorem dX10_hand_1 : decode cX10_hand 1 = .ok (.iload_n 1, 1) := by decide +kernel
theorem dX10_hand_2 : decode cX10_hand 2 = .ok (.invokevirtual 151, 3) := by decide +kernel
theorem dX10_hand_5 : decode cX10_hand 5 = .ok (.ifCond .eq 7, 3) := by decide +kernel
theorem dX10_hand_8 : decode cX10_hand 8 = .ok (.iload_n 2, 1) := by decide +kernel
theorem dX10_hand_9 : decode cX10_hand 9 = .ok (.ifCond .ge 6, 3) := by decide +kernel
theorem dX10_hand_12 : decode cX10_hand 12 = .ok (.bipush (-2), 2) := by decide +kernel
theorem dX10_hand_14 : decode cX10_hand 14 = .ok (.ireturn, 1) := by decide +kernel
theorem dX10_hand_15 : decode cX10_hand 15 = .ok (.aload_n 0, 1) := by decide +kernel
theorem dX10_hand_16 : decode cX10_hand 16 = .ok (.getfield 73, 3) := by decide +kernel
theorem dX10_hand_19 : decode cX10_hand 19 = .ok (.aload_n 0, 1) := by decide +kernel
theorem dX10_hand_20 : decode cX10_hand 20 = .ok (.getfield 42, 3) := by decide +kernel
theorem dX10_hand_23 : decode cX10_hand 23 = .ok (.iload_n 1, 1) := by decide +kernel
theorem dX10_hand_24 : decode cX10_hand 24 = .ok (.aload_n 0, 1) := by decide +kernel
theorem dX10_hand_25 : decode cX10_hand 25 = .ok (.getfield 104, 3) := by decide +kernel
theorem dX10_hand_28 : decode cX10_hand 28 = .ok (.invokevirtual 246, 3) := by decide +kernel
theorem dX10_hand_31 : decode cX10_hand 31 = .ok (.aload_n 0, 1) := by decide +kernel
theorem dX10_hand_32 : decode cX10_hand 32 = .ok (.getfield 73, 3) := by decide +kernel
theorem dX10_hand_35 : decode cX10_hand 35 = .ok (.iload_n 2, 1) := by decide +kernel
theorem dX10_hand_36 : decode cX10_hand 36 = .ok (.invokevirtual 262, 3) := by decide +kernel
theorem dX10_hand_39 : decode cX10_hand 39 = .ok (.ireturn, 1) := by decide +kernel
theorem dX10_ends_0 : decode cX10_ends 0 = .ok (.aload_n 0, 1) := by decide +kernel
theorem dX10_ends_1 : decode cX10_ends 1 = .ok (.iload_n 1, 1) := by decide +kernel
theorem dX10_ends_2 : decode cX10_ends 2 = .ok (.invokevirtual 151, 3) := by decide +kernel
theorem dX10_ends_5 : decode cX10_ends 5 = .ok (.ifCond .eq 7, 3) := by decide +kernel
theorem dX10_ends_8 : decode cX10_ends 8 = .ok (.iload_n 2, 1) := by decide +kernel
theorem dX10_ends_9 : decode cX10_ends 9 = .ok (.ifCond .ge 6, 3) := by decide +kernel
theorem dX10_ends_12 : decode cX10_ends 12 = .ok (.bipush (-2), 2) := by decide +kernel
theorem dX10_ends_14 : decode cX10_ends 14 = .ok (.ireturn, 1) := by decide +kernel
theorem dX10_ends_15 : decode cX10_ends 15 = .ok (.aload_n 0, 1) := by decide +kernel
theorem dX10_ends_16 : decode cX10_ends 16 = .ok (.getfield 73, 3) := by decide +kernel
theorem dX10_ends_19 : decode cX10_ends 19 = .ok (.aload_n 0, 1) := by decide +kernel
theorem dX10_ends_20 : decode cX10_ends 20 = .ok (.getfield 42, 3) := by decide +kernel
theorem dX10_ends_23 : decode cX10_ends 23 = .ok (.iload_n 1, 1) := by decide +kernel
theorem dX10_ends_24 : decode cX10_ends 24 = .ok (.aload_n 0, 1) := by decide +kernel
theorem dX10_ends_25 : decode cX10_ends 25 = .ok (.getfield 104, 3) := by decide +kernel
theorem dX10_ends_28 : decode cX10_ends 28 = .ok (.invokevirtual 246, 3) := by decide +kernel
theorem dX10_ends_31 : decode cX10_ends 31 = .ok (.aload_n 0, 1) := by decide +kernel
theorem dX10_ends_32 : decode cX10_ends 32 = .ok (.getfield 73, 3) := by decide +kernel
theorem dX10_ends_35 : decode cX10_ends 35 = .ok (.iload_n 2, 1) := by decide +kernel
theorem dX10_ends_36 : decode cX10_ends 36 = .ok (.invokevirtual 265, 3) := by decide +kernel
theorem dX10_ends_39 : decode cX10_ends 39 = .ok (.ireturn, 1) := by decide +kernel
theorem dX10_hands_0 : decode cX10_hands 0 = .ok (.aload_n 0, 1) := by decide +kernel
theorem dX10_hands_1 : decode cX10_hands 1 = .ok (.iload_n 1, 1) := by decide +kernel
theorem dX10_hands_2 : decode cX10_hands 2 = .ok (.invokevirtual 151, 3) := by decide +kernel
theorem dX10_hands_5 : decode cX10_hands 5 = .ok (.ifCond .ne 6, 3) := by decide +kernel
theorem dX10_hands_8 : decode cX10_hands 8 = .ok (.bipush (-2), 2) := by decide +kernel
theorem dX10_hands_10 : decode cX10_hands 10 = .ok (.ireturn, 1) := by decide +kernel
theorem dX10_hands_11 : decode cX10_hands 11 = .ok (.iconst 1, 1) := by decide +kernel
theorem dX10_hands_12 : decode cX10_hands 12 = .ok (.istore_n 2, 1) := by decide +kernel
theorem dX10_hands_13 : decode cX10_hands 13 = .ok (.iload_n 2, 1) := by decide +kernel
theorem dX10_hands_14 : decode cX10_hands 14 = .ok (.bipush 8, 2) := by decide +kernel
theorem dX10_hands_16 : decode cX10_hands 16 = .ok (.if_icmp .gt 34, 3) := by decide +kernel
theorem dX10_hands_19 : decode cX10_hands 19 = .ok (.aload_n 0, 1) := by decide +kernel
theorem dX10_hands_20 : decode cX10_hands 20 = .ok (.getfield 73, 3) := by decide +kernel
theorem dX10_hands_23 : decode cX10_hands 23 = .ok (.aload_n 0, 1) := by decide +kernel
theorem dX10_hands_24 : decode cX10_hands 24 = .ok (.getfield 42, 3) := by decide +kernel
theorem dX10_hands_27 : decode cX10_hands 27 = .ok (.iload_n 1, 1) := by decide +kernel
theorem dX10_hands_28 : decode cX10_hands 28 = .ok (.iload_n 2, 1) := by decide +kernel
theorem dX10_hands_29 : decode cX10_hands 29 = .ok (.invokevirtual 246, 3) := by decide +kernel
theorem dX10_hands_32 : decode cX10_hands 32 = .ok (.aload_n 0, 1) := by decide +kernel
theorem dX10_hands_33 : decode cX10_hands 33 = .ok (.getfield 73, 3) := by decide +kernel
theorem dX10_hands_36 : decode cX10_hands 36 = .ok (.invokevirtual 253, 3) := by decide +kernel
theorem dX10_hands_39 : decode cX10_hands 39 = .ok (.ifCond .ne 5, 3) := by decide +kernel
theorem dX10_hands_42 : decode cX10_hands 42 = .ok (.iload_n 2, 1) := by decide +kernel
theorem dX10_hands_43 : decode cX10_hands 43 = .ok (.ireturn, 1) := by decide +kernel
theorem dX10_hands_44 : decode cX10_hands 44 = .ok (.iinc 2 1, 3) := by decide +kernel
theorem dX10_hands_47 : decode cX10_hands 47 = .ok (.goto (-34), 3) := by decide +kernel
theorem dX10_hands_50 : decode cX10_hands 50 = .ok (.iconst (-1), 1) := by decide +kernel
theorem dX10_hands_51 : decode cX10_hands 51 = .ok (.ireturn, 1) := by decide +kernel
theorem dX10_puts_0 : decode cX10_puts 0 = .ok (.aload_n 0, 1) := by decide +kernel
theorem dX10_puts_1 : decode cX10_puts 1 = .ok (.iload_n 1, 1) := by decide +kernel
theorem dX10_puts_2 : decode cX10_puts 2 = .ok (.invokevirtual 151, 3) := by decide +kernel
theorem dX10_puts_5 : decode cX10_puts 5 = .ok (.ifCond .eq 25, 3) := by decide +kernel
theorem dX10_puts_8 : decode cX10_puts 8 = .ok (.iload_n 2, 1) := by decide +kernel
theorem dX10_puts_9 : decode cX10_puts 9 = .ok (.ifCond .lt 21, 3) := by decide +kernel
theorem dX10_puts_12 : decode cX10_puts 12 = .ok (.iload_n 2, 1) := by decide +kernel
theorem dX10_puts_13 : decode cX10_puts 13 = .ok (.sipush 999, 3) := by decide +kernel
theorem dX10_puts_16 : decode cX10_puts 16 = .ok (.if_icmp .gt 14, 3) := by decide +kernel
theorem dX10_puts_19 : decode cX10_puts 19 = .ok (.iload_n 3, 1) := by decide +kernel
theorem dX10_puts_20 : decode cX10_puts 20 = .ok (.iconst 1, 1) := by decide +kernel
theorem dX10_puts_21 : decode cX10_puts 21 = .ok (.if_icmp .lt 9, 3) := by decide +kernel
theorem dX10_puts_24 : decode cX10_puts 24 = .ok (.iload_n 3, 1) := by decide +kernel
theorem dX10_puts_25 : decode cX10_puts 25 = .ok (.bipush 99, 2) := by decide +kernel
theorem dX10_puts_27 : decode cX10_puts 27 = .ok (.if_icmp .le 6, 3) := by decide +kernel
theorem dX10_puts_30 : decode cX10_puts 30 = .ok (.bipush (-2), 2) := by decide +kernel
theorem dX10_puts_32 : decode cX10_puts 32 = .ok (.ireturn, 1) := by decide +kernel
theorem dX10_puts_33 : decode cX10_puts 33 = .ok (.aload_n 0, 1) := by decide +kernel
theorem dX10_puts_34 : decode cX10_puts 34 = .ok (.getfield 35, 3) := by decide +kernel
theorem dX10_puts_37 : decode cX10_puts 37 = .ok (.invokevirtual 145, 3) := by decide +kernel
theorem dX10_puts_40 : decode cX10_puts 40 = .ok (.bipush 30, 2) := by decide +kernel
theorem dX10_puts_42 : decode cX10_puts 42 = .ok (.if_icmp .lt 6, 3) := by decide +kernel
theorem dX10_puts_45 : decode cX10_puts 45 = .ok (.bipush (-5), 2) := by decide +kernel
theorem dX10_puts_47 : decode cX10_puts 47 = .ok (.ireturn, 1) := by decide +kernel
theorem dX10_puts_48 : decode cX10_puts 48 = .ok (.aload_n 0, 1) := by decide +kernel
theorem dX10_puts_49 : decode cX10_puts 49 = .ok (.getfield 42, 3) := by decide +kernel
theorem dX10_puts_52 : decode cX10_puts 52 = .ok (.iload_n 1, 1) := by decide +kernel
theorem dX10_puts_53 : decode cX10_puts 53 = .ok (.invokevirtual 164, 3) := by decide +kernel
theorem dX10_puts_56 : decode cX10_puts 56 = .ok (.bipush 24, 2) := by decide +kernel
theorem dX10_puts_58 : decode cX10_puts 58 = .ok (.if_icmp .lt 6, 3) := by decide +kernel
theorem dX10_puts_61 : decode cX10_puts 61 = .ok (.bipush (-3), 2) := by decide +kernel
theorem dX10_puts_63 : decode cX10_puts 63 = .ok (.ireturn, 1) := by decide +kernel
theorem dX10_puts_64 : decode cX10_puts 64 = .ok (.aload_n 0, 1) := by decide +kernel
theorem dX10_puts_65 : decode cX10_puts 65 = .ok (.iconst 1, 1) := by decide +kernel
theorem dX10_puts_66 : decode cX10_puts 66 = .ok (.iload_n 1, 1) := by decide +kernel
theorem dX10_puts_67 : decode cX10_puts 67 = .ok (.iconst (-1), 1) := by decide +kernel
theorem dX10_puts_68 : decode cX10_puts 68 = .ok (.iload_n 2, 1) := by decide +kernel
theorem dX10_puts_69 : decode cX10_puts 69 = .ok (.iload_n 3, 1) := by decide +kernel
theorem dX10_puts_70 : decode cX10_puts 70 = .ok (.invokevirtual 135, 3) := by decide +kernel
theorem dX10_puts_73 : decode cX10_puts 73 = .ok (.ireturn, 1) := by decide +kernel
theorem dX10_joins_0 : decode cX10_joins 0 = .ok (.aload_n 0, 1) := by decide +kernel
theorem dX10_joins_1 : decode cX10_joins 1 = .ok (.iload_n 1, 1) := by decide +kernel
theorem dX10_joins_2 : decode cX10_joins 2 = .ok (.invokevirtual 151, 3) := by decide +kernel
theorem dX10_joins_5 : decode cX10_joins 5 = .ok (.ifCond .eq 11, 3) := by decide +kernel
theorem dX10_joins_8 : decode cX10_joins 8 = .ok (.aload_n 0, 1) := by decide +kernel
theorem dX10_joins_9 : decode cX10_joins 9 = .ok (.iload_n 2, 1) := by decide +kernel
theorem dX10_joins_10 : decode cX10_joins 10 = .ok (.invokevirtual 151, 3) := by decide +kernel
theorem dX10_joins_13 : decode cX10_joins 13 = .ok (.ifCond .ne 6, 3) := by decide +kernel
theorem dX10_joins_16 : decode cX10_joins 16 = .ok (.bipush (-2), 2) := by decide +kernel
theorem dX10_joins_18 : decode cX10_joins 18 = .ok (.ireturn, 1) := by decide +kernel
theorem dX10_joins_19 : decode cX10_joins 19 = .ok (.aload_n 0, 1) := by decide +kernel
theorem dX10_joins_20 : decode cX10_joins 20 = .ok (.getfield 35, 3) := by decide +kernel
theorem dX10_joins_23 : decode cX10_joins 23 = .ok (.invokevirtual 145, 3) := by decide +kernel
theorem dX10_joins_26 : decode cX10_joins 26 = .ok (.bipush 30, 2) := by decide +kernel
theorem dX10_joins_28 : decode cX10_joins 28 = .ok (.if_icmp .lt 6, 3) := by decide +kernel
theorem dX10_joins_31 : decode cX10_joins 31 = .ok (.bipush (-5), 2) := by decide +kernel
theorem dX10_joins_33 : decode cX10_joins 33 = .ok (.ireturn, 1) := by decide +kernel
theorem dX10_joins_34 : decode cX10_joins 34 = .ok (.aload_n 0, 1) := by decide +kernel
theorem dX10_joins_35 : decode cX10_joins 35 = .ok (.getfield 42, 3) := by decide +kernel
theorem dX10_joins_38 : decode cX10_joins 38 = .ok (.iload_n 1, 1) := by decide +kernel
theorem dX10_joins_39 : decode cX10_joins 39 = .ok (.invokevirtual 164, 3) := by decide +kernel
theorem dX10_joins_42 : decode cX10_joins 42 = .ok (.aload_n 0, 1) := by decide +kernel
theorem dX10_joins_43 : decode cX10_joins 43 = .ok (.getfield 42, 3) := by decide +kernel
theorem dX10_joins_46 : decode cX10_joins 46 = .ok (.iload_n 2, 1) := by decide +kernel
theorem dX10_joins_47 : decode cX10_joins 47 = .ok (.invokevirtual 164, 3) := by decide +kernel
theorem dX10_joins_50 : decode cX10_joins 50 = .ok (.iadd, 1) := by decide +kernel
theorem dX10_joins_51 : decode cX10_joins 51 = .ok (.bipush 24, 2) := by decide +kernel
theorem dX10_joins_53 : decode cX10_joins 53 = .ok (.if_icmp .le 6, 3) := by decide +kernel
theorem dX10_joins_56 : decode cX10_joins 56 = .ok (.bipush (-3), 2) := by decide +kernel
theorem dX10_joins_58 : decode cX10_joins 58 = .ok (.ireturn, 1) := by decide +kernel
theorem dX10_joins_59 : decode cX10_joins 59 = .ok (.aload_n 0, 1) := by decide +kernel
theorem dX10_joins_60 : decode cX10_joins 60 = .ok (.iconst 2, 1) := by decide +kernel
theorem dX10_joins_61 : decode cX10_joins 61 = .ok (.iload_n 1, 1) := by decide +kernel
theorem dX10_joins_62 : decode cX10_joins 62 = .ok (.iload_n 2, 1) := by decide +kernel
theorem dX10_joins_63 : decode cX10_joins 63 = .ok (.iconst 0, 1) := by decide +kernel
theorem dX10_joins_64 : decode cX10_joins 64 = .ok (.iconst 0, 1) := by decide +kernel
theorem dX10_joins_65 : decode cX10_joins 65 = .ok (.invokevirtual 135, 3) := by decide +kernel
theorem dX10_joins_68 : decode cX10_joins 68 = .ok (.ireturn, 1) := by decide +kernel
theorem dX10_takes_0 : decode cX10_takes 0 = .ok (.aload_n 0, 1) := by decide +kernel
theorem dX10_takes_1 : decode cX10_takes 1 = .ok (.iload_n 1, 1) := by decide +kernel
theorem dX10_takes_2 : decode cX10_takes 2 = .ok (.invokevirtual 151, 3) := by decide +kernel
theorem dX10_takes_5 : decode cX10_takes 5 = .ok (.ifCond .ne 6, 3) := by decide +kernel
theorem dX10_takes_8 : decode cX10_takes 8 = .ok (.bipush (-2), 2) := by decide +kernel
theorem dX10_takes_10 : decode cX10_takes 10 = .ok (.ireturn, 1) := by decide +kernel
theorem dX10_takes_11 : decode cX10_takes 11 = .ok (.aload_n 0, 1) := by decide +kernel
theorem dX10_takes_12 : decode cX10_takes 12 = .ok (.getfield 35, 3) := by decide +kernel
theorem dX10_takes_15 : decode cX10_takes 15 = .ok (.invokevirtual 145, 3) := by decide +kernel
theorem dX10_takes_18 : decode cX10_takes 18 = .ok (.bipush 30, 2) := by decide +kernel
theorem dX10_takes_20 : decode cX10_takes 20 = .ok (.if_icmp .lt 6, 3) := by decide +kernel
theorem dX10_takes_23 : decode cX10_takes 23 = .ok (.bipush (-5), 2) := by decide +kernel
theorem dX10_takes_25 : decode cX10_takes 25 = .ok (.ireturn, 1) := by decide +kernel
theorem dX10_takes_26 : decode cX10_takes 26 = .ok (.aload_n 0, 1) := by decide +kernel
theorem dX10_takes_27 : decode cX10_takes 27 = .ok (.getfield 42, 3) := by decide +kernel
theorem dX10_takes_30 : decode cX10_takes 30 = .ok (.iload_n 1, 1) := by decide +kernel
theorem dX10_takes_31 : decode cX10_takes 31 = .ok (.invokevirtual 164, 3) := by decide +kernel
theorem dX10_takes_34 : decode cX10_takes 34 = .ok (.ifCond .ne 6, 3) := by decide +kernel
theorem dX10_takes_37 : decode cX10_takes 37 = .ok (.bipush (-3), 2) := by decide +kernel
theorem dX10_takes_39 : decode cX10_takes 39 = .ok (.ireturn, 1) := by decide +kernel
theorem dX10_takes_40 : decode cX10_takes 40 = .ok (.aload_n 0, 1) := by decide +kernel
theorem dX10_takes_41 : decode cX10_takes 41 = .ok (.iconst 3, 1) := by decide +kernel
theorem dX10_takes_42 : decode cX10_takes 42 = .ok (.iload_n 1, 1) := by decide +kernel
theorem dX10_takes_43 : decode cX10_takes 43 = .ok (.iconst (-1), 1) := by decide +kernel
theorem dX10_takes_44 : decode cX10_takes 44 = .ok (.iconst 0, 1) := by decide +kernel
theorem dX10_takes_45 : decode cX10_takes 45 = .ok (.iconst 0, 1) := by decide +kernel
theorem dX10_takes_46 : decode cX10_takes 46 = .ok (.invokevirtual 135, 3) := by decide +kernel
theorem dX10_takes_49 : decode cX10_takes 49 = .ok (.ireturn, 1) := by decide +kernel
theorem dX10_undo_0 : decode cX10_undo 0 = .ok (.aload_n 0, 1) := by decide +kernel
theorem dX10_undo_1 : decode cX10_undo 1 = .ok (.getfield 110, 3) := by decide +kernel
theorem dX10_undo_4 : decode cX10_undo 4 = .ok (.ifCond .ne 6, 3) := by decide +kernel
theorem dX10_undo_7 : decode cX10_undo 7 = .ok (.bipush (-2), 2) := by decide +kernel
theorem dX10_undo_9 : decode cX10_undo 9 = .ok (.ireturn, 1) := by decide +kernel
theorem dX10_undo_10 : decode cX10_undo 10 = .ok (.aload_n 0, 1) := by decide +kernel
theorem dX10_undo_11 : decode cX10_undo 11 = .ok (.getfield 35, 3) := by decide +kernel
theorem dX10_undo_14 : decode cX10_undo 14 = .ok (.invokevirtual 145, 3) := by decide +kernel
theorem dX10_undo_17 : decode cX10_undo 17 = .ok (.aload_n 0, 1) := by decide +kernel
theorem dX10_undo_18 : decode cX10_undo 18 = .ok (.getfield 116, 3) := by decide +kernel
theorem dX10_undo_21 : decode cX10_undo 21 = .ok (.if_icmp .gt 6, 3) := by decide +kernel
theorem dX10_undo_24 : decode cX10_undo 24 = .ok (.bipush (-5), 2) := by decide +kernel
theorem dX10_undo_26 : decode cX10_undo 26 = .ok (.ireturn, 1) := by decide +kernel
theorem dX10_undo_27 : decode cX10_undo 27 = .ok (.aload_n 0, 1) := by decide +kernel
theorem dX10_undo_28 : decode cX10_undo 28 = .ok (.aload_n 0, 1) := by decide +kernel
theorem dX10_undo_29 : decode cX10_undo 29 = .ok (.getfield 35, 3) := by decide +kernel
theorem dX10_undo_32 : decode cX10_undo 32 = .ok (.invokevirtual 145, 3) := by decide +kernel
theorem dX10_undo_35 : decode cX10_undo 35 = .ok (.iconst 1, 1) := by decide +kernel
theorem dX10_undo_36 : decode cX10_undo 36 = .ok (.isub, 1) := by decide +kernel
theorem dX10_undo_37 : decode cX10_undo 37 = .ok (.invokevirtual 91, 3) := by decide +kernel
theorem dX10_undo_40 : decode cX10_undo 40 = .ok (.aload_n 0, 1) := by decide +kernel
theorem dX10_undo_41 : decode cX10_undo 41 = .ok (.getfield 35, 3) := by decide +kernel
theorem dX10_undo_44 : decode cX10_undo 44 = .ok (.invokevirtual 145, 3) := by decide +kernel
theorem dX10_undo_47 : decode cX10_undo 47 = .ok (.aload_n 0, 1) := by decide +kernel
theorem dX10_undo_48 : decode cX10_undo 48 = .ok (.getfield 116, 3) := by decide +kernel
theorem dX10_undo_51 : decode cX10_undo 51 = .ok (.isub, 1) := by decide +kernel
theorem dX10_undo_52 : decode cX10_undo 52 = .ok (.ireturn, 1) := by decide +kernel
theorem dX10_anew_0 : decode cX10_anew 0 = .ok (.aload_n 0, 1) := by decide +kernel
theorem dX10_anew_1 : decode cX10_anew 1 = .ok (.getfield 110, 3) := by decide +kernel
theorem dX10_anew_4 : decode cX10_anew 4 = .ok (.ifCond .ne 6, 3) := by decide +kernel
theorem dX10_anew_7 : decode cX10_anew 7 = .ok (.bipush (-2), 2) := by decide +kernel
theorem dX10_anew_9 : decode cX10_anew 9 = .ok (.ireturn, 1) := by decide +kernel
theorem dX10_anew_10 : decode cX10_anew 10 = .ok (.aload_n 0, 1) := by decide +kernel
theorem dX10_anew_11 : decode cX10_anew 11 = .ok (.getfield 35, 3) := by decide +kernel
theorem dX10_anew_14 : decode cX10_anew 14 = .ok (.invokevirtual 145, 3) := by decide +kernel
theorem dX10_anew_17 : decode cX10_anew 17 = .ok (.aload_n 0, 1) := by decide +kernel
theorem dX10_anew_18 : decode cX10_anew 18 = .ok (.getfield 116, 3) := by decide +kernel
theorem dX10_anew_21 : decode cX10_anew 21 = .ok (.isub, 1) := by decide +kernel
theorem dX10_anew_22 : decode cX10_anew 22 = .ok (.istore_n 1, 1) := by decide +kernel
theorem dX10_anew_23 : decode cX10_anew 23 = .ok (.aload_n 0, 1) := by decide +kernel
theorem dX10_anew_24 : decode cX10_anew 24 = .ok (.aload_n 0, 1) := by decide +kernel
theorem dX10_anew_25 : decode cX10_anew 25 = .ok (.getfield 116, 3) := by decide +kernel
theorem dX10_anew_28 : decode cX10_anew 28 = .ok (.invokevirtual 91, 3) := by decide +kernel
theorem dX10_anew_31 : decode cX10_anew 31 = .ok (.iload_n 1, 1) := by decide +kernel
theorem dX10_anew_32 : decode cX10_anew 32 = .ok (.ireturn, 1) := by decide +kernel
theorem dX10_has_0 : decode cX10_has 0 = .ok (.iload_n 1, 1) := by decide +kernel
theorem dX10_has_1 : decode cX10_has 1 = .ok (.ifCond .lt 18, 3) := by decide +kernel
theorem dX10_has_4 : decode cX10_has 4 = .ok (.iload_n 1, 1) := by decide +kernel
theorem dX10_has_5 : decode cX10_has 5 = .ok (.aload_n 0, 1) := by decide +kernel
theorem dX10_has_6 : decode cX10_has 6 = .ok (.getfield 35, 3) := by decide +kernel
theorem dX10_has_9 : decode cX10_has 9 = .ok (.invokevirtual 145, 3) := by decide +kernel
theorem dX10_has_12 : decode cX10_has 12 = .ok (.if_icmp .ge 7, 3) := by decide +kernel
theorem dX10_has_15 : decode cX10_has 15 = .ok (.iconst 1, 1) := by decide +kernel
theorem dX10_has_16 : decode cX10_has 16 = .ok (.goto 4, 3) := by decide +kernel
theorem dX10_has_19 : decode cX10_has 19 = .ok (.iconst 0, 1) := by decide +kernel
theorem dX10_has_20 : decode cX10_has 20 = .ok (.ireturn, 1) := by decide +kernel
theorem dX10_heaps_0 : decode cX10_heaps 0 = .ok (.aload_n 0, 1) := by decide +kernel
theorem dX10_heaps_1 : decode cX10_heaps 1 = .ok (.getfield 97, 3) := by decide +kernel
theorem dX10_heaps_4 : decode cX10_heaps 4 = .ok (.iconst 1, 1) := by decide +kernel
theorem dX10_heaps_5 : decode cX10_heaps 5 = .ok (.if_icmp .ne 10, 3) := by decide +kernel
theorem dX10_heaps_8 : decode cX10_heaps 8 = .ok (.aload_n 0, 1) := by decide +kernel
theorem dX10_heaps_9 : decode cX10_heaps 9 = .ok (.getfield 58, 3) := by decide +kernel
theorem dX10_heaps_12 : decode cX10_heaps 12 = .ok (.goto 7, 3) := by decide +kernel
theorem dX10_heaps_15 : decode cX10_heaps 15 = .ok (.aload_n 0, 1) := by decide +kernel
theorem dX10_heaps_16 : decode cX10_heaps 16 = .ok (.getfield 54, 3) := by decide +kernel
theorem dX10_heaps_19 : decode cX10_heaps 19 = .ok (.areturn, 1) := by decide +kernel
theorem dX10_treeAt_0 : decode cX10_treeAt 0 = .ok (.aload_n 0, 1) := by decide +kernel
theorem dX10_treeAt_1 : decode cX10_treeAt 1 = .ok (.iload_n 1, 1) := by decide +kernel
theorem dX10_treeAt_2 : decode cX10_treeAt 2 = .ok (.invokevirtual 151, 3) := by decide +kernel
theorem dX10_treeAt_5 : decode cX10_treeAt 5 = .ok (.ifCond .eq 7, 3) := by decide +kernel
theorem dX10_treeAt_8 : decode cX10_treeAt 8 = .ok (.iload_n 2, 1) := by decide +kernel
theorem dX10_treeAt_9 : decode cX10_treeAt 9 = .ok (.ifCond .ge 6, 3) := by decide +kernel
theorem dX10_treeAt_12 : decode cX10_treeAt 12 = .ok (.bipush (-2), 2) := by decide +kernel
theorem dX10_treeAt_14 : decode cX10_treeAt 14 = .ok (.ireturn, 1) := by decide +kernel
theorem dX10_treeAt_15 : decode cX10_treeAt 15 = .ok (.aload_n 0, 1) := by decide +kernel
theorem dX10_treeAt_16 : decode cX10_treeAt 16 = .ok (.invokevirtual 177, 3) := by decide +kernel
theorem dX10_treeAt_19 : decode cX10_treeAt 19 = .ok (.iload_n 1, 1) := by decide +kernel
theorem dX10_treeAt_20 : decode cX10_treeAt 20 = .ok (.iload_n 2, 1) := by decide +kernel
theorem dX10_treeAt_21 : decode cX10_treeAt 21 = .ok (.invokevirtual 268, 3) := by decide +kernel
theorem dX10_treeAt_24 : decode cX10_treeAt 24 = .ok (.istore_n 3, 1) := by decide +kernel
theorem dX10_treeAt_25 : decode cX10_treeAt 25 = .ok (.iload_n 3, 1) := by decide +kernel
theorem dX10_treeAt_26 : decode cX10_treeAt 26 = .ok (.ifCond .ne 7, 3) := by decide +kernel
theorem dX10_treeAt_29 : decode cX10_treeAt 29 = .ok (.iconst (-1), 1) := by decide +kernel
theorem dX10_treeAt_30 : decode cX10_treeAt 30 = .ok (.goto 4, 3) := by decide +kernel
theorem dX10_treeAt_33 : decode cX10_treeAt 33 = .ok (.iload_n 3, 1) := by decide +kernel
theorem dX10_treeAt_34 : decode cX10_treeAt 34 = .ok (.ireturn, 1) := by decide +kernel
theorem dX10_walkOver_0 : decode cX10_walkOver 0 = .ok (.aload_n 0, 1) := by decide +kernel
theorem dX10_walkOver_1 : decode cX10_walkOver 1 = .ok (.getfield 64, 3) := by decide +kernel
theorem dX10_walkOver_4 : decode cX10_walkOver 4 = .ok (.aload_n 0, 1) := by decide +kernel
theorem dX10_walkOver_5 : decode cX10_walkOver 5 = .ok (.invokevirtual 177, 3) := by decide +kernel
theorem dX10_walkOver_8 : decode cX10_walkOver 8 = .ok (.invokevirtual 187, 3) := by decide +kernel
theorem dX10_walkOver_11 : decode cX10_walkOver 11 = .ok (.aload_n 0, 1) := by decide +kernel
theorem dX10_walkOver_12 : decode cX10_walkOver 12 = .ok (.invokevirtual 177, 3) := by decide +kernel
theorem dX10_walkOver_15 : decode cX10_walkOver 15 = .ok (.iload_n 1, 1) := by decide +kernel
theorem dX10_walkOver_16 : decode cX10_walkOver 16 = .ok (.invokevirtual 209, 3) := by decide +kernel
theorem dX10_walkOver_19 : decode cX10_walkOver 19 = .ok (.invokevirtual 271, 3) := by decide +kernel
theorem dX10_walkOver_22 : decode cX10_walkOver 22 = .ok (.aload_n 0, 1) := by decide +kernel
theorem dX10_walkOver_23 : decode cX10_walkOver 23 = .ok (.getfield 64, 3) := by decide +kernel
theorem dX10_walkOver_26 : decode cX10_walkOver 26 = .ok (.invokevirtual 275, 3) := by decide +kernel
theorem dX10_walkOver_29 : decode cX10_walkOver 29 = .ok (.ireturn, 1) := by decide +kernel
theorem dX10_grow_0 : decode cX10_grow 0 = .ok (.aload_n 0, 1) := by decide +kernel
theorem dX10_grow_1 : decode cX10_grow 1 = .ok (.getfield 35, 3) := by decide +kernel
theorem dX10_grow_4 : decode cX10_grow 4 = .ok (.invokevirtual 145, 3) := by decide +kernel
theorem dX10_grow_7 : decode cX10_grow 7 = .ok (.istore 6, 2) := by decide +kernel
theorem dX10_grow_9 : decode cX10_grow 9 = .ok (.iconst (-1), 1) := by decide +kernel
theorem dX10_grow_10 : decode cX10_grow 10 = .ok (.istore 7, 2) := by decide +kernel
theorem dX10_grow_12 : decode cX10_grow 12 = .ok (.iload_n 1, 1) := by decide +kernel
theorem dX10_grow_13 : decode cX10_grow 13 = .ok (.iconst 1, 1) := by decide +kernel
theorem dX10_grow_14 : decode cX10_grow 14 = .ok (.if_icmp .ne 19, 3) := by decide +kernel
theorem dX10_grow_17 : decode cX10_grow 17 = .ok (.aload_n 0, 1) := by decide +kernel
theorem dX10_grow_18 : decode cX10_grow 18 = .ok (.getfield 28, 3) := by decide +kernel
theorem dX10_grow_21 : decode cX10_grow 21 = .ok (.iload 4, 2) := by decide +kernel
theorem dX10_grow_23 : decode cX10_grow 23 = .ok (.iload 5, 2) := by decide +kernel
theorem dX10_grow_25 : decode cX10_grow 25 = .ok (.invokevirtual 278, 3) := by decide +kernel
theorem dX10_grow_28 : decode cX10_grow 28 = .ok (.istore 7, 2) := by decide +kernel
theorem dX10_grow_30 : decode cX10_grow 30 = .ok (.goto 19, 3) := by decide +kernel
theorem dX10_grow_33 : decode cX10_grow 33 = .ok (.iload_n 1, 1) := by decide +kernel
theorem dX10_grow_34 : decode cX10_grow 34 = .ok (.iconst 3, 1) := by decide +kernel
theorem dX10_grow_35 : decode cX10_grow 35 = .ok (.if_icmp .ne 14, 3) := by decide +kernel
theorem dX10_grow_38 : decode cX10_grow 38 = .ok (.aload_n 0, 1) := by decide +kernel
theorem dX10_grow_39 : decode cX10_grow 39 = .ok (.getfield 42, 3) := by decide +kernel
theorem dX10_grow_42 : decode cX10_grow 42 = .ok (.iload_n 2, 1) := by decide +kernel
theorem dX10_grow_43 : decode cX10_grow 43 = .ok (.iconst 0, 1) := by decide +kernel
theorem dX10_grow_44 : decode cX10_grow 44 = .ok (.invokevirtual 167, 3) := by decide +kernel
theorem dX10_grow_47 : decode cX10_grow 47 = .ok (.istore 7, 2) := by decide +kernel
theorem dX10_grow_49 : decode cX10_grow 49 = .ok (.aload_n 0, 1) := by decide +kernel
theorem dX10_grow_50 : decode cX10_grow 50 = .ok (.getfield 28, 3) := by decide +kernel
theorem dX10_grow_53 : decode cX10_grow 53 = .ok (.iload 7, 2) := by decide +kernel
theorem dX10_grow_55 : decode cX10_grow 55 = .ok (.invokevirtual 171, 3) := by decide +kernel
theorem dX10_grow_58 : decode cX10_grow 58 = .ok (.istore 8, 2) := by decide +kernel
theorem dX10_grow_60 : decode cX10_grow 60 = .ok (.aload_n 0, 1) := by decide +kernel
theorem dX10_grow_61 : decode cX10_grow 61 = .ok (.getfield 42, 3) := by decide +kernel
theorem dX10_grow_64 : decode cX10_grow 64 = .ok (.iload 6, 2) := by decide +kernel
theorem dX10_grow_66 : decode cX10_grow 66 = .ok (.iload_n 1, 1) := by decide +kernel
theorem dX10_grow_67 : decode cX10_grow 67 = .ok (.iload_n 2, 1) := by decide +kernel
theorem dX10_grow_68 : decode cX10_grow 68 = .ok (.iload_n 3, 1) := by decide +kernel
theorem dX10_grow_69 : decode cX10_grow 69 = .ok (.iload 8, 2) := by decide +kernel
theorem dX10_grow_71 : decode cX10_grow 71 = .ok (.invokevirtual 280, 3) := by decide +kernel
theorem dX10_grow_74 : decode cX10_grow 74 = .ok (.aload_n 0, 1) := by decide +kernel
theorem dX10_grow_75 : decode cX10_grow 75 = .ok (.getfield 54, 3) := by decide +kernel
theorem dX10_grow_78 : decode cX10_grow 78 = .ok (.iload_n 1, 1) := by decide +kernel
theorem dX10_grow_79 : decode cX10_grow 79 = .ok (.iload_n 2, 1) := by decide +kernel
theorem dX10_grow_80 : decode cX10_grow 80 = .ok (.iload_n 3, 1) := by decide +kernel
theorem dX10_grow_81 : decode cX10_grow 81 = .ok (.iload 8, 2) := by decide +kernel
theorem dX10_grow_83 : decode cX10_grow 83 = .ok (.invokevirtual 284, 3) := by decide +kernel
theorem dX10_grow_86 : decode cX10_grow 86 = .ok (.aload_n 0, 1) := by decide +kernel
theorem dX10_grow_87 : decode cX10_grow 87 = .ok (.getfield 58, 3) := by decide +kernel
theorem dX10_grow_90 : decode cX10_grow 90 = .ok (.iload_n 1, 1) := by decide +kernel
theorem dX10_grow_91 : decode cX10_grow 91 = .ok (.iload_n 2, 1) := by decide +kernel
theorem dX10_grow_92 : decode cX10_grow 92 = .ok (.iload_n 3, 1) := by decide +kernel
theorem dX10_grow_93 : decode cX10_grow 93 = .ok (.iload 8, 2) := by decide +kernel
theorem dX10_grow_95 : decode cX10_grow 95 = .ok (.invokevirtual 284, 3) := by decide +kernel
theorem dX10_grow_98 : decode cX10_grow 98 = .ok (.aload_n 0, 1) := by decide +kernel
theorem dX10_grow_99 : decode cX10_grow 99 = .ok (.getfield 35, 3) := by decide +kernel
theorem dX10_grow_102 : decode cX10_grow 102 = .ok (.iload_n 1, 1) := by decide +kernel
theorem dX10_grow_103 : decode cX10_grow 103 = .ok (.iload_n 2, 1) := by decide +kernel
theorem dX10_grow_104 : decode cX10_grow 104 = .ok (.iload_n 3, 1) := by decide +kernel
theorem dX10_grow_105 : decode cX10_grow 105 = .ok (.iload 7, 2) := by decide +kernel
theorem dX10_grow_107 : decode cX10_grow 107 = .ok (.invokevirtual 287, 3) := by decide +kernel
theorem dX10_grow_110 : decode cX10_grow 110 = .ok (.iload 6, 2) := by decide +kernel
theorem dX10_grow_112 : decode cX10_grow 112 = .ok (.ireturn, 1) := by decide +kernel
theorem dX10_cutTo_0 : decode cX10_cutTo 0 = .ok (.aload_n 0, 1) := by decide +kernel
theorem dX10_cutTo_1 : decode cX10_cutTo 1 = .ok (.getfield 28, 3) := by decide +kernel
theorem dX10_cutTo_4 : decode cX10_cutTo 4 = .ok (.aload_n 0, 1) := by decide +kernel
theorem dX10_cutTo_5 : decode cX10_cutTo 5 = .ok (.getfield 28, 3) := by decide +kernel
theorem dX10_cutTo_8 : decode cX10_cutTo 8 = .ok (.invokevirtual 148, 3) := by decide +kernel
theorem dX10_cutTo_11 : decode cX10_cutTo 11 = .ok (.aload_n 0, 1) := by decide +kernel
theorem dX10_cutTo_12 : decode cX10_cutTo 12 = .ok (.getfield 35, 3) := by decide +kernel
theorem dX10_cutTo_15 : decode cX10_cutTo 15 = .ok (.iload_n 1, 1) := by decide +kernel
theorem dX10_cutTo_16 : decode cX10_cutTo 16 = .ok (.invokevirtual 289, 3) := by decide +kernel
theorem dX10_cutTo_19 : decode cX10_cutTo 19 = .ok (.isub, 1) := by decide +kernel
theorem dX10_cutTo_20 : decode cX10_cutTo 20 = .ok (.invokevirtual 292, 3) := by decide +kernel
theorem dX10_cutTo_23 : decode cX10_cutTo 23 = .ok (.aload_n 0, 1) := by decide +kernel
theorem dX10_cutTo_24 : decode cX10_cutTo 24 = .ok (.getfield 54, 3) := by decide +kernel
theorem dX10_cutTo_27 : decode cX10_cutTo 27 = .ok (.iload_n 1, 1) := by decide +kernel
theorem dX10_cutTo_28 : decode cX10_cutTo 28 = .ok (.invokevirtual 293, 3) := by decide +kernel
theorem dX10_cutTo_31 : decode cX10_cutTo 31 = .ok (.aload_n 0, 1) := by decide +kernel
theorem dX10_cutTo_32 : decode cX10_cutTo 32 = .ok (.getfield 58, 3) := by decide +kernel
theorem dX10_cutTo_35 : decode cX10_cutTo 35 = .ok (.iload_n 1, 1) := by decide +kernel
theorem dX10_cutTo_36 : decode cX10_cutTo 36 = .ok (.invokevirtual 293, 3) := by decide +kernel
theorem dX10_cutTo_39 : decode cX10_cutTo 39 = .ok (.aload_n 0, 1) := by decide +kernel
theorem dX10_cutTo_40 : decode cX10_cutTo 40 = .ok (.getfield 35, 3) := by decide +kernel
theorem dX10_cutTo_43 : decode cX10_cutTo 43 = .ok (.iload_n 1, 1) := by decide +kernel
theorem dX10_cutTo_44 : decode cX10_cutTo 44 = .ok (.invokevirtual 294, 3) := by decide +kernel
theorem dX10_cutTo_47 : decode cX10_cutTo 47 = .ok (.return_, 1) := by decide +kernel
theorem dX10_suppose_0 : decode cX10_suppose 0 = .ok (.aload_n 0, 1) := by decide +kernel
theorem dX10_suppose_1 : decode cX10_suppose 1 = .ok (.iload_n 1, 1) := by decide +kernel
theorem dX10_suppose_2 : decode cX10_suppose 2 = .ok (.invokevirtual 151, 3) := by decide +kernel
theorem dX10_suppose_5 : decode cX10_suppose 5 = .ok (.ifCond .eq 23, 3) := by decide +kernel
theorem dX10_suppose_8 : decode cX10_suppose 8 = .ok (.aload_n 0, 1) := by decide +kernel
theorem dX10_suppose_9 : decode cX10_suppose 9 = .ok (.iload_n 2, 1) := by decide +kernel
theorem dX10_suppose_10 : decode cX10_suppose 10 = .ok (.invokevirtual 151, 3) := by decide +kernel
theorem dX10_suppose_13 : decode cX10_suppose 13 = .ok (.ifCond .eq 15, 3) := by decide +kernel
theorem dX10_suppose_16 : decode cX10_suppose 16 = .ok (.aload_n 0, 1) := by decide +kernel
theorem dX10_suppose_17 : decode cX10_suppose 17 = .ok (.getfield 35, 3) := by decide +kernel
theorem dX10_suppose_20 : decode cX10_suppose 20 = .ok (.iload_n 2, 1) := by decide +kernel
theorem dX10_suppose_21 : decode cX10_suppose 21 = .ok (.invokevirtual 155, 3) := by decide +kernel
theorem dX10_suppose_24 : decode cX10_suppose 24 = .ok (.iconst 1, 1) := by decide +kernel
theorem dX10_suppose_25 : decode cX10_suppose 25 = .ok (.if_icmp .eq 5, 3) := by decide +kernel
theorem dX10_suppose_28 : decode cX10_suppose 28 = .ok (.iconst 0, 1) := by decide +kernel
theorem dX10_suppose_29 : decode cX10_suppose 29 = .ok (.ireturn, 1) := by decide +kernel
theorem dX10_suppose_30 : decode cX10_suppose 30 = .ok (.iconst 0, 1) := by decide +kernel
theorem dX10_suppose_31 : decode cX10_suppose 31 = .ok (.istore_n 3, 1) := by decide +kernel
theorem dX10_suppose_32 : decode cX10_suppose 32 = .ok (.iload_n 3, 1) := by decide +kernel
theorem dX10_suppose_33 : decode cX10_suppose 33 = .ok (.iload_n 1, 1) := by decide +kernel
theorem dX10_suppose_34 : decode cX10_suppose 34 = .ok (.if_icmp .gt 87, 3) := by decide +kernel
theorem dX10_suppose_37 : decode cX10_suppose 37 = .ok (.iload_n 3, 1) := by decide +kernel
theorem dX10_suppose_38 : decode cX10_suppose 38 = .ok (.bipush 30, 2) := by decide +kernel
theorem dX10_suppose_40 : decode cX10_suppose 40 = .ok (.if_icmp .ge 81, 3) := by decide +kernel
theorem dX10_suppose_43 : decode cX10_suppose 43 = .ok (.iload_n 3, 1) := by decide +kernel
theorem dX10_suppose_44 : decode cX10_suppose 44 = .ok (.iload_n 2, 1) := by decide +kernel
theorem dX10_suppose_45 : decode cX10_suppose 45 = .ok (.if_icmp .ne 23, 3) := by decide +kernel
theorem dX10_suppose_48 : decode cX10_suppose 48 = .ok (.aload_n 0, 1) := by decide +kernel
theorem dX10_suppose_49 : decode cX10_suppose 49 = .ok (.getfield 46, 3) := by decide +kernel
theorem dX10_suppose_52 : decode cX10_suppose 52 = .ok (.iload_n 3, 1) := by decide +kernel
theorem dX10_suppose_53 : decode cX10_suppose 53 = .ok (.aload_n 0, 1) := by decide +kernel
theorem dX10_suppose_54 : decode cX10_suppose 54 = .ok (.getfield 35, 3) := by decide +kernel
theorem dX10_suppose_57 : decode cX10_suppose 57 = .ok (.iload_n 3, 1) := by decide +kernel
theorem dX10_suppose_58 : decode cX10_suppose 58 = .ok (.invokevirtual 156, 3) := by decide +kernel
theorem dX10_suppose_61 : decode cX10_suppose 61 = .ok (.iconst 0, 1) := by decide +kernel
theorem dX10_suppose_62 : decode cX10_suppose 62 = .ok (.invokevirtual 295, 3) := by decide +kernel
theorem dX10_suppose_65 : decode cX10_suppose 65 = .ok (.goto 50, 3) := by decide +kernel
theorem dX10_suppose_68 : decode cX10_suppose 68 = .ok (.aload_n 0, 1) := by decide +kernel
theorem dX10_suppose_69 : decode cX10_suppose 69 = .ok (.getfield 46, 3) := by decide +kernel
theorem dX10_suppose_72 : decode cX10_suppose 72 = .ok (.iload_n 3, 1) := by decide +kernel
theorem dX10_suppose_73 : decode cX10_suppose 73 = .ok (.aload_n 0, 1) := by decide +kernel
theorem dX10_suppose_74 : decode cX10_suppose 74 = .ok (.getfield 35, 3) := by decide +kernel
theorem dX10_suppose_77 : decode cX10_suppose 77 = .ok (.iload_n 3, 1) := by decide +kernel
theorem dX10_suppose_78 : decode cX10_suppose 78 = .ok (.invokevirtual 155, 3) := by decide +kernel
theorem dX10_suppose_81 : decode cX10_suppose 81 = .ok (.aload_n 0, 1) := by decide +kernel
theorem dX10_suppose_82 : decode cX10_suppose 82 = .ok (.getfield 35, 3) := by decide +kernel
theorem dX10_suppose_85 : decode cX10_suppose 85 = .ok (.iload_n 3, 1) := by decide +kernel
theorem dX10_suppose_86 : decode cX10_suppose 86 = .ok (.invokevirtual 156, 3) := by decide +kernel
theorem dX10_suppose_89 : decode cX10_suppose 89 = .ok (.aload_n 0, 1) := by decide +kernel
theorem dX10_suppose_90 : decode cX10_suppose 90 = .ok (.getfield 35, 3) := by decide +kernel
theorem dX10_suppose_93 : decode cX10_suppose 93 = .ok (.iload_n 3, 1) := by decide +kernel
theorem dX10_suppose_94 : decode cX10_suppose 94 = .ok (.invokevirtual 157, 3) := by decide +kernel
theorem dX10_suppose_97 : decode cX10_suppose 97 = .ok (.aload_n 0, 1) := by decide +kernel
theorem dX10_suppose_98 : decode cX10_suppose 98 = .ok (.getfield 28, 3) := by decide +kernel
theorem dX10_suppose_101 : decode cX10_suppose 101 = .ok (.aload_n 0, 1) := by decide +kernel
theorem dX10_suppose_102 : decode cX10_suppose 102 = .ok (.getfield 35, 3) := by decide +kernel
theorem dX10_suppose_105 : decode cX10_suppose 105 = .ok (.iload_n 3, 1) := by decide +kernel
theorem dX10_suppose_106 : decode cX10_suppose 106 = .ok (.invokevirtual 158, 3) := by decide +kernel
theorem dX10_suppose_109 : decode cX10_suppose 109 = .ok (.invokevirtual 171, 3) := by decide +kernel
theorem dX10_suppose_112 : decode cX10_suppose 112 = .ok (.invokevirtual 280, 3) := by decide +kernel
theorem dX10_suppose_115 : decode cX10_suppose 115 = .ok (.iinc 3 1, 3) := by decide +kernel
theorem dX10_suppose_118 : decode cX10_suppose 118 = .ok (.goto (-86), 3) := by decide +kernel
theorem dX10_suppose_121 : decode cX10_suppose 121 = .ok (.iconst 1, 1) := by decide +kernel
theorem dX10_suppose_122 : decode cX10_suppose 122 = .ok (.ireturn, 1) := by decide +kernel
theorem dX10_at_0 : decode cX10_at 0 = .ok (.iload_n 1, 1) := by decide +kernel
theorem dX10_at_1 : decode cX10_at 1 = .ok (.ifCond .lt 15, 3) := by decide +kernel
theorem dX10_at_4 : decode cX10_at 4 = .ok (.iload_n 1, 1) := by decide +kernel
theorem dX10_at_5 : decode cX10_at 5 = .ok (.aload_n 0, 1) := by decide +kernel
theorem dX10_at_6 : decode cX10_at 6 = .ok (.arraylength, 1) := by decide +kernel
theorem dX10_at_7 : decode cX10_at 7 = .ok (.if_icmp .ge 9, 3) := by decide +kernel
theorem dX10_at_10 : decode cX10_at 10 = .ok (.aload_n 0, 1) := by decide +kernel
theorem dX10_at_11 : decode cX10_at 11 = .ok (.iload_n 1, 1) := by decide +kernel
theorem dX10_at_12 : decode cX10_at 12 = .ok (.iaload, 1) := by decide +kernel
theorem dX10_at_13 : decode cX10_at 13 = .ok (.goto 4, 3) := by decide +kernel
theorem dX10_at_16 : decode cX10_at 16 = .ok (.iconst 0, 1) := by decide +kernel
theorem dX10_at_17 : decode cX10_at 17 = .ok (.ireturn, 1) := by decide +kernel
theorem dX10_set_0 : decode cX10_set 0 = .ok (.iload_n 1, 1) := by decide +kernel
theorem dX10_set_1 : decode cX10_set 1 = .ok (.ifCond .lt 13, 3) := by decide +kernel
theorem dX10_set_4 : decode cX10_set 4 = .ok (.iload_n 1, 1) := by decide +kernel
theorem dX10_set_5 : decode cX10_set 5 = .ok (.aload_n 0, 1) := by decide +kernel
theorem dX10_set_6 : decode cX10_set 6 = .ok (.arraylength, 1) := by decide +kernel
theorem dX10_set_7 : decode cX10_set 7 = .ok (.if_icmp .ge 7, 3) := by decide +kernel
theorem dX10_set_10 : decode cX10_set 10 = .ok (.aload_n 0, 1) := by decide +kernel
theorem dX10_set_11 : decode cX10_set 11 = .ok (.iload_n 1, 1) := by decide +kernel
theorem dX10_set_12 : decode cX10_set 12 = .ok (.iload_n 2, 1) := by decide +kernel
theorem dX10_set_13 : decode cX10_set 13 = .ok (.iastore, 1) := by decide +kernel
theorem dX10_set_14 : decode cX10_set 14 = .ok (.return_, 1) := by decide +kernel
theorem dX11_in_0 : decode cX11_in 0 = .ok (.lload_n 0, 1) := by decide +kernel
theorem dX11_in_1 : decode cX11_in 1 = .ok (.lload_n 2, 1) := by decide +kernel
theorem dX11_in_2 : decode cX11_in 2 = .ok (.lcmp, 1) := by decide +kernel
theorem dX11_in_3 : decode cX11_in 3 = .ok (.ifCond .lt 14, 3) := by decide +kernel
theorem dX11_in_6 : decode cX11_in 6 = .ok (.lload_n 0, 1) := by decide +kernel
theorem dX11_in_7 : decode cX11_in 7 = .ok (.lload 4, 2) := by decide +kernel
theorem dX11_in_9 : decode cX11_in 9 = .ok (.lcmp, 1) := by decide +kernel
theorem dX11_in_10 : decode cX11_in 10 = .ok (.ifCond .gt 7, 3) := by decide +kernel
theorem dX11_in_13 : decode cX11_in 13 = .ok (.iconst 1, 1) := by decide +kernel
theorem dX11_in_14 : decode cX11_in 14 = .ok (.goto 4, 3) := by decide +kernel
theorem dX11_in_17 : decode cX11_in 17 = .ok (.iconst 0, 1) := by decide +kernel
theorem dX11_in_18 : decode cX11_in 18 = .ok (.ireturn, 1) := by decide +kernel
theorem dX11_init_0 : decode cX11_init 0 = .ok (.aload_n 0, 1) := by decide +kernel
theorem dX11_init_1 : decode cX11_init 1 = .ok (.invokespecial 1, 3) := by decide +kernel
theorem dX11_init_4 : decode cX11_init 4 = .ok (.aload_n 0, 1) := by decide +kernel
theorem dX11_init_5 : decode cX11_init 5 = .ok (.sipush 216, 3) := by decide +kernel
theorem dX11_init_8 : decode cX11_init 8 = .ok (.newarray .int, 2) := by decide +kernel
theorem dX11_init_10 : decode cX11_init 10 = .ok (.putfield 9, 3) := by decide +kernel
theorem dX11_init_13 : decode cX11_init 13 = .ok (.aload_n 0, 1) := by decide +kernel
theorem dX11_init_14 : decode cX11_init 14 = .ok (.sipush 216, 3) := by decide +kernel
theorem dX11_init_17 : decode cX11_init 17 = .ok (.newarray .int, 2) := by decide +kernel
theorem dX11_init_19 : decode cX11_init 19 = .ok (.putfield 13, 3) := by decide +kernel
theorem dX11_init_22 : decode cX11_init 22 = .ok (.aload_n 0, 1) := by decide +kernel
theorem dX11_init_23 : decode cX11_init 23 = .ok (.sipush 600, 3) := by decide +kernel
theorem dX11_init_26 : decode cX11_init 26 = .ok (.newarray .int, 2) := by decide +kernel
theorem dX11_init_28 : decode cX11_init 28 = .ok (.putfield 16, 3) := by decide +kernel
theorem dX11_init_31 : decode cX11_init 31 = .ok (.aload_n 0, 1) := by decide +kernel
theorem dX11_init_32 : decode cX11_init 32 = .ok (.iconst (-1), 1) := by decide +kernel
theorem dX11_init_33 : decode cX11_init 33 = .ok (.putfield 19, 3) := by decide +kernel
theorem dX11_init_36 : decode cX11_init 36 = .ok (.aload_n 0, 1) := by decide +kernel
theorem dX11_init_37 : decode cX11_init 37 = .ok (.sipush 8000, 3) := by decide +kernel
theorem dX11_init_40 : decode cX11_init 40 = .ok (.newarray .int, 2) := by decide +kernel
theorem dX11_init_42 : decode cX11_init 42 = .ok (.putfield 23, 3) := by decide +kernel
theorem dX11_init_45 : decode cX11_init 45 = .ok (.aload_n 0, 1) := by decide +kernel
theorem dX11_init_46 : decode cX11_init 46 = .ok (.sipush 8000, 3) := by decide +kernel
theorem dX11_init_49 : decode cX11_init 49 = .ok (.newarray .int, 2) := by decide +kernel
theorem dX11_init_51 : decode cX11_init 51 = .ok (.putfield 26, 3) := by decide +kernel
theorem dX11_init_54 : decode cX11_init 54 = .ok (.aload_n 0, 1) := by decide +kernel
theorem dX11_init_55 : decode cX11_init 55 = .ok (.sipush 8000, 3) := by decide +kernel
theorem dX11_init_58 : decode cX11_init 58 = .ok (.newarray .int, 2) := by decide +kernel
theorem dX11_init_60 : decode cX11_init 60 = .ok (.putfield 29, 3) := by decide +kernel
theorem dX11_init_63 : decode cX11_init 63 = .ok (.aload_n 0, 1) := by decide +kernel
theorem dX11_init_64 : decode cX11_init 64 = .ok (.sipush 8000, 3) := by decide +kernel
theorem dX11_init_67 : decode cX11_init 67 = .ok (.newarray .int, 2) := by decide +kernel
theorem dX11_init_69 : decode cX11_init 69 = .ok (.putfield 32, 3) := by decide +kernel
theorem dX11_init_72 : decode cX11_init 72 = .ok (.aload_n 0, 1) := by decide +kernel
theorem dX11_init_73 : decode cX11_init 73 = .ok (.sipush 8000, 3) := by decide +kernel
theorem dX11_init_76 : decode cX11_init 76 = .ok (.newarray .int, 2) := by decide +kernel
theorem dX11_init_78 : decode cX11_init 78 = .ok (.putfield 35, 3) := by decide +kernel
theorem dX11_init_81 : decode cX11_init 81 = .ok (.aload_n 0, 1) := by decide +kernel
theorem dX11_init_82 : decode cX11_init 82 = .ok (.sipush 8000, 3) := by decide +kernel
theorem dX11_init_85 : decode cX11_init 85 = .ok (.newarray .int, 2) := by decide +kernel
theorem dX11_init_87 : decode cX11_init 87 = .ok (.putfield 38, 3) := by decide +kernel
theorem dX11_init_90 : decode cX11_init 90 = .ok (.aload_n 0, 1) := by decide +kernel
theorem dX11_init_91 : decode cX11_init 91 = .ok (.ldc 41, 2) := by decide +kernel
theorem dX11_init_93 : decode cX11_init 93 = .ok (.newarray .int, 2) := by decide +kernel
theorem dX11_init_95 : decode cX11_init 95 = .ok (.putfield 42, 3) := by decide +kernel
theorem dX11_init_98 : decode cX11_init 98 = .ok (.aload_n 0, 1) := by decide +kernel
theorem dX11_init_99 : decode cX11_init 99 = .ok (.ldc 41, 2) := by decide +kernel
theorem dX11_init_101 : decode cX11_init 101 = .ok (.newarray .int, 2) := by decide +kernel
theorem dX11_init_103 : decode cX11_init 103 = .ok (.putfield 45, 3) := by decide +kernel
theorem dX11_init_106 : decode cX11_init 106 = .ok (.aload_n 0, 1) := by decide +kernel
theorem dX11_init_107 : decode cX11_init 107 = .ok (.bipush 30, 2) := by decide +kernel
theorem dX11_init_109 : decode cX11_init 109 = .ok (.newarray .int, 2) := by decide +kernel
theorem dX11_init_111 : decode cX11_init 111 = .ok (.putfield 48, 3) := by decide +kernel
theorem dX11_init_114 : decode cX11_init 114 = .ok (.aload_n 0, 1) := by decide +kernel
theorem dX11_init_115 : decode cX11_init 115 = .ok (.bipush 30, 2) := by decide +kernel
theorem dX11_init_117 : decode cX11_init 117 = .ok (.newarray .int, 2) := by decide +kernel
theorem dX11_init_119 : decode cX11_init 119 = .ok (.putfield 51, 3) := by decide +kernel
theorem dX11_init_122 : decode cX11_init 122 = .ok (.aload_n 0, 1) := by decide +kernel
theorem dX11_init_123 : decode cX11_init 123 = .ok (.bipush 30, 2) := by decide +kernel
theorem dX11_init_125 : decode cX11_init 125 = .ok (.newarray .int, 2) := by decide +kernel
theorem dX11_init_127 : decode cX11_init 127 = .ok (.putfield 54, 3) := by decide +kernel
theorem dX11_init_130 : decode cX11_init 130 = .ok (.aload_n 0, 1) := by decide +kernel
theorem dX11_init_131 : decode cX11_init 131 = .ok (.bipush 54, 2) := by decide +kernel
theorem dX11_init_133 : decode cX11_init 133 = .ok (.newarray .int, 2) := by decide +kernel
theorem dX11_init_135 : decode cX11_init 135 = .ok (.putfield 57, 3) := by decide +kernel
theorem dX11_init_138 : decode cX11_init 138 = .ok (.aload_n 0, 1) := by decide +kernel
theorem dX11_init_139 : decode cX11_init 139 = .ok (.sipush 8000, 3) := by decide +kernel
theorem dX11_init_142 : decode cX11_init 142 = .ok (.newarray .int, 2) := by decide +kernel
theorem dX11_init_144 : decode cX11_init 144 = .ok (.putfield 60, 3) := by decide +kernel
theorem dX11_init_147 : decode cX11_init 147 = .ok (.aload_n 0, 1) := by decide +kernel
theorem dX11_init_148 : decode cX11_init 148 = .ok (.sipush 8000, 3) := by decide +kernel
theorem dX11_init_151 : decode cX11_init 151 = .ok (.newarray .int, 2) := by decide +kernel
theorem dX11_init_153 : decode cX11_init 153 = .ok (.putfield 63, 3) := by decide +kernel
theorem dX11_init_156 : decode cX11_init 156 = .ok (.aload_n 0, 1) := by decide +kernel
theorem dX11_init_157 : decode cX11_init 157 = .ok (.bipush 8, 2) := by decide +kernel
theorem dX11_init_159 : decode cX11_init 159 = .ok (.newarray .int, 2) := by decide +kernel
theorem dX11_init_161 : decode cX11_init 161 = .ok (.putfield 66, 3) := by decide +kernel
theorem dX11_init_164 : decode cX11_init 164 = .ok (.aload_n 0, 1) := by decide +kernel
theorem dX11_init_165 : decode cX11_init 165 = .ok (.bipush 54, 2) := by decide +kernel
theorem dX11_init_167 : decode cX11_init 167 = .ok (.newarray .int, 2) := by decide +kernel
theorem dX11_init_169 : decode cX11_init 169 = .ok (.putfield 69, 3) := by decide +kernel
theorem dX11_init_172 : decode cX11_init 172 = .ok (.aload_n 0, 1) := by decide +kernel
theorem dX11_init_173 : decode cX11_init 173 = .ok (.bipush 54, 2) := by decide +kernel
theorem dX11_init_175 : decode cX11_init 175 = .ok (.newarray .int, 2) := by decide +kernel
theorem dX11_init_177 : decode cX11_init 177 = .ok (.putfield 72, 3) := by decide +kernel
theorem dX11_init_180 : decode cX11_init 180 = .ok (.return_, 1) := by decide +kernel
theorem dX11_feed_0 : decode cX11_feed 0 = .ok (.aload_n 0, 1) := by decide +kernel
theorem dX11_feed_1 : decode cX11_feed 1 = .ok (.getfield 75, 3) := by decide +kernel
theorem dX11_feed_4 : decode cX11_feed 4 = .ok (.sipush 580, 3) := by decide +kernel
theorem dX11_feed_7 : decode cX11_feed 7 = .ok (.if_icmp .le 5, 3) := by decide +kernel
theorem dX11_feed_10 : decode cX11_feed 10 = .ok (.iconst (-1), 1) := by decide +kernel
theorem dX11_feed_11 : decode cX11_feed 11 = .ok (.ireturn, 1) := by decide +kernel
theorem dX11_feed_12 : decode cX11_feed 12 = .ok (.iconst 5, 1) := by decide +kernel
theorem dX11_feed_13 : decode cX11_feed 13 = .ok (.newarray .int, 2) := by decide +kernel
theorem dX11_feed_15 : decode cX11_feed 15 = .ok (.dup, 1) := by decide +kernel
theorem dX11_feed_16 : decode cX11_feed 16 = .ok (.iconst 0, 1) := by decide +kernel
theorem dX11_feed_17 : decode cX11_feed 17 = .ok (.iload_n 1, 1) := by decide +kernel
theorem dX11_feed_18 : decode cX11_feed 18 = .ok (.iastore, 1) := by decide +kernel
theorem dX11_feed_19 : decode cX11_feed 19 = .ok (.dup, 1) := by decide +kernel
theorem dX11_feed_20 : decode cX11_feed 20 = .ok (.iconst 1, 1) := by decide +kernel
theorem dX11_feed_21 : decode cX11_feed 21 = .ok (.iload_n 2, 1) := by decide +kernel
theorem dX11_feed_22 : decode cX11_feed 22 = .ok (.iastore, 1) := by decide +kernel
theorem dX11_feed_23 : decode cX11_feed 23 = .ok (.dup, 1) := by decide +kernel
theorem dX11_feed_24 : decode cX11_feed 24 = .ok (.iconst 2, 1) := by decide +kernel
theorem dX11_feed_25 : decode cX11_feed 25 = .ok (.iload_n 3, 1) := by decide +kernel
theorem dX11_feed_26 : decode cX11_feed 26 = .ok (.iastore, 1) := by decide +kernel
theorem dX11_feed_27 : decode cX11_feed 27 = .ok (.dup, 1) := by decide +kernel
theorem dX11_feed_28 : decode cX11_feed 28 = .ok (.iconst 3, 1) := by decide +kernel
theorem dX11_feed_29 : decode cX11_feed 29 = .ok (.iload 4, 2) := by decide +kernel
theorem dX11_feed_31 : decode cX11_feed 31 = .ok (.iastore, 1) := by decide +kernel
theorem dX11_feed_32 : decode cX11_feed 32 = .ok (.dup, 1) := by decide +kernel
theorem dX11_feed_33 : decode cX11_feed 33 = .ok (.iconst 4, 1) := by decide +kernel
theorem dX11_feed_34 : decode cX11_feed 34 = .ok (.iload 5, 2) := by decide +kernel
theorem dX11_feed_36 : decode cX11_feed 36 = .ok (.iastore, 1) := by decide +kernel
theorem dX11_feed_37 : decode cX11_feed 37 = .ok (.astore 6, 2) := by decide +kernel
theorem dX11_feed_39 : decode cX11_feed 39 = .ok (.iconst 0, 1) := by decide +kernel
theorem dX11_feed_40 : decode cX11_feed 40 = .ok (.istore 7, 2) := by decide +kernel
theorem dX11_feed_42 : decode cX11_feed 42 = .ok (.iload 7, 2) := by decide +kernel
theorem dX11_feed_44 : decode cX11_feed 44 = .ok (.bipush 20, 2) := by decide +kernel
theorem dX11_feed_46 : decode cX11_feed 46 = .ok (.if_icmp .ge 43, 3) := by decide +kernel
theorem dX11_feed_49 : decode cX11_feed 49 = .ok (.aload_n 0, 1) := by decide +kernel
theorem dX11_feed_50 : decode cX11_feed 50 = .ok (.getfield 16, 3) := by decide +kernel
theorem dX11_feed_53 : decode cX11_feed 53 = .ok (.aload_n 0, 1) := by decide +kernel
theorem dX11_feed_54 : decode cX11_feed 54 = .ok (.getfield 75, 3) := by decide +kernel
theorem dX11_feed_57 : decode cX11_feed 57 = .ok (.iload 7, 2) := by decide +kernel
theorem dX11_feed_59 : decode cX11_feed 59 = .ok (.iadd, 1) := by decide +kernel
theorem dX11_feed_60 : decode cX11_feed 60 = .ok (.aload 6, 2) := by decide +kernel
theorem dX11_feed_62 : decode cX11_feed 62 = .ok (.iload 7, 2) := by decide +kernel
theorem dX11_feed_64 : decode cX11_feed 64 = .ok (.iconst 4, 1) := by decide +kernel
theorem dX11_feed_65 : decode cX11_feed 65 = .ok (.idiv, 1) := by decide +kernel
theorem dX11_feed_66 : decode cX11_feed 66 = .ok (.iaload, 1) := by decide +kernel
theorem dX11_feed_67 : decode cX11_feed 67 = .ok (.bipush 24, 2) := by decide +kernel
theorem dX11_feed_69 : decode cX11_feed 69 = .ok (.bipush 8, 2) := by decide +kernel
theorem dX11_feed_71 : decode cX11_feed 71 = .ok (.iload 7, 2) := by decide +kernel
theorem dX11_feed_73 : decode cX11_feed 73 = .ok (.iconst 4, 1) := by decide +kernel
theorem dX11_feed_74 : decode cX11_feed 74 = .ok (.irem, 1) := by decide +kernel
theorem dX11_feed_75 : decode cX11_feed 75 = .ok (.imul, 1) := by decide +kernel
theorem dX11_feed_76 : decode cX11_feed 76 = .ok (.isub, 1) := by decide +kernel
theorem dX11_feed_77 : decode cX11_feed 77 = .ok (.iushr, 1) := by decide +kernel
theorem dX11_feed_78 : decode cX11_feed 78 = .ok (.sipush 255, 3) := by decide +kernel
theorem dX11_feed_81 : decode cX11_feed 81 = .ok (.iand, 1) := by decide +kernel
theorem dX11_feed_82 : decode cX11_feed 82 = .ok (.iastore, 1) := by decide +kernel
theorem dX11_feed_83 : decode cX11_feed 83 = .ok (.iinc 7 1, 3) := by decide +kernel
theorem dX11_feed_86 : decode cX11_feed 86 = .ok (.goto (-44), 3) := by decide +kernel
theorem dX11_feed_89 : decode cX11_feed 89 = .ok (.aload_n 0, 1) := by decide +kernel
theorem dX11_feed_90 : decode cX11_feed 90 = .ok (.dup, 1) := by decide +kernel
theorem dX11_feed_91 : decode cX11_feed 91 = .ok (.getfield 75, 3) := by decide +kernel
theorem dX11_feed_94 : decode cX11_feed 94 = .ok (.bipush 20, 2) := by decide +kernel
theorem dX11_feed_96 : decode cX11_feed 96 = .ok (.iadd, 1) := by decide +kernel
theorem dX11_feed_97 : decode cX11_feed 97 = .ok (.putfield 75, 3) := by decide +kernel
theorem dX11_feed_100 : decode cX11_feed 100 = .ok (.aload_n 0, 1) := by decide +kernel
theorem dX11_feed_101 : decode cX11_feed 101 = .ok (.getfield 75, 3) := by decide +kernel
theorem dX11_feed_104 : decode cX11_feed 104 = .ok (.ireturn, 1) := by decide +kernel
theorem dX11_end_0 : decode cX11_end 0 = .ok (.iload_n 1, 1) := by decide +kernel
theorem dX11_end_1 : decode cX11_end 1 = .ok (.i2l, 1) := by decide +kernel
theorem dX11_end_2 : decode cX11_end 2 = .ok (.lconst 0, 1) := by decide +kernel
theorem dX11_end_3 : decode cX11_end 3 = .ok (.aload_n 0, 1) := by decide +kernel
theorem dX11_end_4 : decode cX11_end 4 = .ok (.getfield 75, 3) := by decide +kernel
theorem dX11_end_7 : decode cX11_end 7 = .ok (.i2l, 1) := by decide +kernel
theorem dX11_end_8 : decode cX11_end 8 = .ok (.invokestatic 78, 3) := by decide +kernel
theorem dX11_end_11 : decode cX11_end 11 = .ok (.ifCond .ne 5, 3) := by decide +kernel
theorem dX11_end_14 : decode cX11_end 14 = .ok (.iconst (-1), 1) := by decide +kernel
theorem dX11_end_15 : decode cX11_end 15 = .ok (.ireturn, 1) := by decide +kernel
theorem dX11_end_16 : decode cX11_end 16 = .ok (.aload_n 0, 1) := by decide +kernel
theorem dX11_end_17 : decode cX11_end 17 = .ok (.iload_n 1, 1) := by decide +kernel
theorem dX11_end_18 : decode cX11_end 18 = .ok (.putfield 75, 3) := by decide +kernel
theorem dX11_end_21 : decode cX11_end 21 = .ok (.iload_n 1, 1) := by decide +kernel
theorem dX11_end_22 : decode cX11_end 22 = .ok (.ireturn, 1) := by decide +kernel
theorem dX11_isAt_0 : decode cX11_isAt 0 = .ok (.aload_n 0, 1) := by decide +kernel
theorem dX11_isAt_1 : decode cX11_isAt 1 = .ok (.getfield 82, 3) := by decide +kernel
theorem dX11_isAt_4 : decode cX11_isAt 4 = .ok (.aload_n 0, 1) := by decide +kernel
theorem dX11_isAt_5 : decode cX11_isAt 5 = .ok (.getfield 75, 3) := by decide +kernel
theorem dX11_isAt_8 : decode cX11_isAt 8 = .ok (.if_icmp .ge 27, 3) := by decide +kernel
theorem dX11_isAt_11 : decode cX11_isAt 11 = .ok (.aload_n 0, 1) := by decide +kernel
theorem dX11_isAt_12 : decode cX11_isAt 12 = .ok (.getfield 16, 3) := by decide +kernel
theorem dX11_isAt_15 : decode cX11_isAt 15 = .ok (.aload_n 0, 1) := by decide +kernel
theorem dX11_isAt_16 : decode cX11_isAt 16 = .ok (.getfield 82, 3) := by decide +kernel
theorem dX11_isAt_19 : decode cX11_isAt 19 = .ok (.iaload, 1) := by decide +kernel
theorem dX11_isAt_20 : decode cX11_isAt 20 = .ok (.i2l, 1) := by decide +kernel
theorem dX11_isAt_21 : decode cX11_isAt 21 = .ok (.iload_n 1, 1) := by decide +kernel
theorem dX11_isAt_22 : decode cX11_isAt 22 = .ok (.i2l, 1) := by decide +kernel
theorem dX11_isAt_23 : decode cX11_isAt 23 = .ok (.iload_n 2, 1) := by decide +kernel
theorem dX11_isAt_24 : decode cX11_isAt 24 = .ok (.i2l, 1) := by decide +kernel
theorem dX11_isAt_25 : decode cX11_isAt 25 = .ok (.invokestatic 78, 3) := by decide +kernel
theorem dX11_isAt_28 : decode cX11_isAt 28 = .ok (.ifCond .eq 7, 3) := by decide +kernel
theorem dX11_isAt_31 : decode cX11_isAt 31 = .ok (.iconst 1, 1) := by decide +kernel
theorem dX11_isAt_32 : decode cX11_isAt 32 = .ok (.goto 4, 3) := by decide +kernel
theorem dX11_isAt_35 : decode cX11_isAt 35 = .ok (.iconst 0, 1) := by decide +kernel
theorem dX11_isAt_36 : decode cX11_isAt 36 = .ok (.ireturn, 1) := by decide +kernel
theorem dX11_next_0 : decode cX11_next 0 = .ok (.aload_n 0, 1) := by decide +kernel
theorem dX11_next_1 : decode cX11_next 1 = .ok (.bipush 32, 2) := by decide +kernel
theorem dX11_next_3 : decode cX11_next 3 = .ok (.bipush 32, 2) := by decide +kernel
theorem dX11_next_5 : decode cX11_next 5 = .ok (.invokevirtual 85, 3) := by decide +kernel
theorem dX11_next_8 : decode cX11_next 8 = .ok (.ifCond .ne 14, 3) := by decide +kernel
theorem dX11_next_11 : decode cX11_next 11 = .ok (.aload_n 0, 1) := by decide +kernel
theorem dX11_next_12 : decode cX11_next 12 = .ok (.bipush 10, 2) := by decide +kernel
theorem dX11_next_14 : decode cX11_next 14 = .ok (.bipush 10, 2) := by decide +kernel
theorem dX11_next_16 : decode cX11_next 16 = .ok (.invokevirtual 85, 3) := by decide +kernel
theorem dX11_next_19 : decode cX11_next 19 = .ok (.ifCond .eq 16, 3) := by decide +kernel
theorem dX11_next_22 : decode cX11_next 22 = .ok (.aload_n 0, 1) := by decide +kernel
theorem dX11_next_23 : decode cX11_next 23 = .ok (.dup, 1) := by decide +kernel
theorem dX11_next_24 : decode cX11_next 24 = .ok (.getfield 82, 3) := by decide +kernel
theorem dX11_next_27 : decode cX11_next 27 = .ok (.iconst 1, 1) := by decide +kernel
theorem dX11_next_28 : decode cX11_next 28 = .ok (.iadd, 1) := by decide +kernel
theorem dX11_next_29 : decode cX11_next 29 = .ok (.putfield 82, 3) := by decide +kernel
theorem dX11_next_32 : decode cX11_next 32 = .ok (.goto (-32), 3) := by decide +kernel
theorem dX11_next_35 : decode cX11_next 35 = .ok (.aload_n 0, 1) := by decide +kernel
theorem dX11_next_36 : decode cX11_next 36 = .ok (.aload_n 0, 1) := by decide +kernel
theorem dX11_next_37 : decode cX11_next 37 = .ok (.getfield 82, 3) := by decide +kernel
theorem dX11_next_40 : decode cX11_next 40 = .ok (.putfield 89, 3) := by decide +kernel
theorem dX11_next_43 : decode cX11_next 43 = .ok (.aload_n 0, 1) := by decide +kernel
theorem dX11_next_44 : decode cX11_next 44 = .ok (.iconst 0, 1) := by decide +kernel
theorem dX11_next_45 : decode cX11_next 45 = .ok (.putfield 92, 3) := by decide +kernel
theorem dX11_next_48 : decode cX11_next 48 = .ok (.aload_n 0, 1) := by decide +kernel
theorem dX11_next_49 : decode cX11_next 49 = .ok (.getfield 82, 3) := by decide +kernel
theorem dX11_next_52 : decode cX11_next 52 = .ok (.aload_n 0, 1) := by decide +kernel
theorem dX11_next_53 : decode cX11_next 53 = .ok (.getfield 75, 3) := by decide +kernel
theorem dX11_next_56 : decode cX11_next 56 = .ok (.if_icmp .ne 11, 3) := by decide +kernel
theorem dX11_next_59 : decode cX11_next 59 = .ok (.aload_n 0, 1) := by decide +kernel
theorem dX11_next_60 : decode cX11_next 60 = .ok (.iconst 0, 1) := by decide +kernel
theorem dX11_next_61 : decode cX11_next 61 = .ok (.putfield 95, 3) := by decide +kernel
theorem dX11_next_64 : decode cX11_next 64 = .ok (.goto 142, 3) := by decide +kernel
theorem dX11_next_67 : decode cX11_next 67 = .ok (.aload_n 0, 1) := by decide +kernel
theorem dX11_next_68 : decode cX11_next 68 = .ok (.bipush 97, 2) := by decide +kernel
theorem dX11_next_70 : decode cX11_next 70 = .ok (.bipush 122, 2) := by decide +kernel
theorem dX11_next_72 : decode cX11_next 72 = .ok (.invokevirtual 85, 3) := by decide +kernel
theorem dX11_next_75 : decode cX11_next 75 = .ok (.ifCond .eq 32, 3) := by decide +kernel
theorem dX11_next_78 : decode cX11_next 78 = .ok (.aload_n 0, 1) := by decide +kernel
theorem dX11_next_79 : decode cX11_next 79 = .ok (.iconst 1, 1) := by decide +kernel
theorem dX11_next_80 : decode cX11_next 80 = .ok (.putfield 95, 3) := by decide +kernel
theorem dX11_next_83 : decode cX11_next 83 = .ok (.aload_n 0, 1) := by decide +kernel
theorem dX11_next_84 : decode cX11_next 84 = .ok (.bipush 97, 2) := by decide +kernel
theorem dX11_next_86 : decode cX11_next 86 = .ok (.bipush 122, 2) := by decide +kernel
theorem dX11_next_88 : decode cX11_next 88 = .ok (.invokevirtual 85, 3) := by decide +kernel
theorem dX11_next_91 : decode cX11_next 91 = .ok (.ifCond .eq 115, 3) := by decide +kernel
theorem dX11_next_94 : decode cX11_next 94 = .ok (.aload_n 0, 1) := by decide +kernel
theorem dX11_next_95 : decode cX11_next 95 = .ok (.dup, 1) := by decide +kernel
theorem dX11_next_96 : decode cX11_next 96 = .ok (.getfield 82, 3) := by decide +kernel
theorem dX11_next_99 : decode cX11_next 99 = .ok (.iconst 1, 1) := by decide +kernel
theorem dX11_next_100 : decode cX11_next 100 = .ok (.iadd, 1) := by decide +kernel
theorem dX11_next_101 : decode cX11_next 101 = .ok (.putfield 82, 3) := by decide +kernel
theorem dX11_next_104 : decode cX11_next 104 = .ok (.goto (-21), 3) := by decide +kernel
theorem dX11_next_107 : decode cX11_next 107 = .ok (.aload_n 0, 1) := by decide +kernel
theorem dX11_next_108 : decode cX11_next 108 = .ok (.bipush 48, 2) := by decide +kernel
theorem dX11_next_110 : decode cX11_next 110 = .ok (.bipush 57, 2) := by decide +kernel
theorem dX11_next_112 : decode cX11_next 112 = .ok (.invokevirtual 85, 3) := by decide +kernel
theorem dX11_next_115 : decode cX11_next 115 = .ok (.ifCond .eq 61, 3) := by decide +kernel
theorem dX11_next_118 : decode cX11_next 118 = .ok (.aload_n 0, 1) := by decide +kernel
theorem dX11_next_119 : decode cX11_next 119 = .ok (.iconst 2, 1) := by decide +kernel
theorem dX11_next_120 : decode cX11_next 120 = .ok (.putfield 95, 3) := by decide +kernel
theorem dX11_next_123 : decode cX11_next 123 = .ok (.aload_n 0, 1) := by decide +kernel
theorem dX11_next_124 : decode cX11_next 124 = .ok (.bipush 48, 2) := by decide +kernel
theorem dX11_next_126 : decode cX11_next 126 = .ok (.bipush 57, 2) := by decide +kernel
theorem dX11_next_128 : decode cX11_next 128 = .ok (.invokevirtual 85, 3) := by decide +kernel
theorem dX11_next_131 : decode cX11_next 131 = .ok (.ifCond .eq 75, 3) := by decide +kernel
theorem dX11_next_134 : decode cX11_next 134 = .ok (.aload_n 0, 1) := by decide +kernel
theorem dX11_next_135 : decode cX11_next 135 = .ok (.ldc 98, 2) := by decide +kernel
theorem dX11_next_137 : decode cX11_next 137 = .ok (.bipush 10, 2) := by decide +kernel
theorem dX11_next_139 : decode cX11_next 139 = .ok (.aload_n 0, 1) := by decide +kernel
theorem dX11_next_140 : decode cX11_next 140 = .ok (.getfield 92, 3) := by decide +kernel
theorem dX11_next_143 : decode cX11_next 143 = .ok (.imul, 1) := by decide +kernel
theorem dX11_next_144 : decode cX11_next 144 = .ok (.aload_n 0, 1) := by decide +kernel
theorem dX11_next_145 : decode cX11_next 145 = .ok (.getfield 16, 3) := by decide +kernel
theorem dX11_next_148 : decode cX11_next 148 = .ok (.aload_n 0, 1) := by decide +kernel
theorem dX11_next_149 : decode cX11_next 149 = .ok (.getfield 82, 3) := by decide +kernel
theorem dX11_next_152 : decode cX11_next 152 = .ok (.iaload, 1) := by decide +kernel
theorem dX11_next_153 : decode cX11_next 153 = .ok (.iadd, 1) := by decide +kernel
theorem dX11_next_154 : decode cX11_next 154 = .ok (.bipush 48, 2) := by decide +kernel
theorem dX11_next_156 : decode cX11_next 156 = .ok (.isub, 1) := by decide +kernel
theorem dX11_next_157 : decode cX11_next 157 = .ok (.invokestatic 99, 3) := by decide +kernel
theorem dX11_next_160 : decode cX11_next 160 = .ok (.putfield 92, 3) := by decide +kernel
theorem dX11_next_163 : decode cX11_next 163 = .ok (.aload_n 0, 1) := by decide +kernel
theorem dX11_next_164 : decode cX11_next 164 = .ok (.dup, 1) := by decide +kernel
theorem dX11_next_165 : decode cX11_next 165 = .ok (.getfield 82, 3) := by decide +kernel
theorem dX11_next_168 : decode cX11_next 168 = .ok (.iconst 1, 1) := by decide +kernel
theorem dX11_next_169 : decode cX11_next 169 = .ok (.iadd, 1) := by decide +kernel
theorem dX11_next_170 : decode cX11_next 170 = .ok (.putfield 82, 3) := by decide +kernel
theorem dX11_next_173 : decode cX11_next 173 = .ok (.goto (-50), 3) := by decide +kernel
theorem dX11_next_176 : decode cX11_next 176 = .ok (.aload_n 0, 1) := by decide +kernel
theorem dX11_next_177 : decode cX11_next 177 = .ok (.aload_n 0, 1) := by decide +kernel
theorem dX11_next_178 : decode cX11_next 178 = .ok (.bipush 59, 2) := by decide +kernel
theorem dX11_next_180 : decode cX11_next 180 = .ok (.bipush 59, 2) := by decide +kernel
theorem dX11_next_182 : decode cX11_next 182 = .ok (.invokevirtual 85, 3) := by decide +kernel
theorem dX11_next_185 : decode cX11_next 185 = .ok (.ifCond .eq 7, 3) := by decide +kernel
theorem dX11_next_188 : decode cX11_next 188 = .ok (.iconst 3, 1) := by decide +kernel
theorem dX11_next_189 : decode cX11_next 189 = .ok (.goto 4, 3) := by decide +kernel
theorem dX11_next_192 : decode cX11_next 192 = .ok (.iconst 4, 1) := by decide +kernel
theorem dX11_next_193 : decode cX11_next 193 = .ok (.putfield 95, 3) := by decide +kernel
theorem dX11_next_196 : decode cX11_next 196 = .ok (.aload_n 0, 1) := by decide +kernel
theorem dX11_next_197 : decode cX11_next 197 = .ok (.dup, 1) := by decide +kernel
theorem dX11_next_198 : decode cX11_next 198 = .ok (.getfield 82, 3) := by decide +kernel
theorem dX11_next_201 : decode cX11_next 201 = .ok (.iconst 1, 1) := by decide +kernel
theorem dX11_next_202 : decode cX11_next 202 = .ok (.iadd, 1) := by decide +kernel
theorem dX11_next_203 : decode cX11_next 203 = .ok (.putfield 82, 3) := by decide +kernel
theorem dX11_next_206 : decode cX11_next 206 = .ok (.return_, 1) := by decide +kernel
theorem dX11_faults_0 : decode cX11_faults 0 = .ok (.aload_n 0, 1) := by decide +kernel
theorem dX11_faults_1 : decode cX11_faults 1 = .ok (.getfield 105, 3) := by decide +kernel
theorem dX11_faults_4 : decode cX11_faults 4 = .ok (.ifCond .ne 21, 3) := by decide +kernel
theorem dX11_faults_7 : decode cX11_faults 7 = .ok (.aload_n 0, 1) := by decide +kernel
theorem dX11_faults_8 : decode cX11_faults 8 = .ok (.iconst 1, 1) := by decide +kernel
theorem dX11_faults_9 : decode cX11_faults 9 = .ok (.putfield 105, 3) := by decide +kernel
theorem dX11_faults_12 : decode cX11_faults 12 = .ok (.aload_n 0, 1) := by decide +kernel
theorem dX11_faults_13 : decode cX11_faults 13 = .ok (.iload_n 1, 1) := by decide +kernel
theorem dX11_faults_14 : decode cX11_faults 14 = .ok (.putfield 109, 3) := by decide +kernel
theorem dX11_faults_17 : decode cX11_faults 17 = .ok (.aload_n 0, 1) := by decide +kernel
theorem dX11_faults_18 : decode cX11_faults 18 = .ok (.aload_n 0, 1) := by decide +kernel
theorem dX11_faults_19 : decode cX11_faults 19 = .ok (.getfield 89, 3) := by decide +kernel
theorem dX11_faults_22 : decode cX11_faults 22 = .ok (.putfield 19, 3) := by decide +kernel
theorem dX11_faults_25 : decode cX11_faults 25 = .ok (.return_, 1) := by decide +kernel
theorem dX11_isWord_0 : decode cX11_isWord 0 = .ok (.aload_n 0, 1) := by decide +kernel
theorem dX11_isWord_1 : decode cX11_isWord 1 = .ok (.getfield 95, 3) := by decide +kernel
theorem dX11_isWord_4 : decode cX11_isWord 4 = .ok (.iconst 1, 1) := by decide +kernel
theorem dX11_isWord_5 : decode cX11_isWord 5 = .ok (.if_icmp .ne 19, 3) := by decide +kernel
theorem dX11_isWord_8 : decode cX11_isWord 8 = .ok (.aload_n 0, 1) := by decide +kernel
theorem dX11_isWord_9 : decode cX11_isWord 9 = .ok (.getfield 82, 3) := by decide +kernel
theorem dX11_isWord_12 : decode cX11_isWord 12 = .ok (.aload_n 0, 1) := by decide +kernel
theorem dX11_isWord_13 : decode cX11_isWord 13 = .ok (.getfield 89, 3) := by decide +kernel
theorem dX11_isWord_16 : decode cX11_isWord 16 = .ok (.isub, 1) := by decide +kernel
theorem dX11_isWord_17 : decode cX11_isWord 17 = .ok (.aload_n 1, 1) := by decide +kernel
theorem dX11_isWord_18 : decode cX11_isWord 18 = .ok (.invokevirtual 112, 3) := by decide +kernel
theorem dX11_isWord_21 : decode cX11_isWord 21 = .ok (.if_icmp .eq 5, 3) := by decide +kernel
theorem dX11_isWord_24 : decode cX11_isWord 24 = .ok (.iconst 0, 1) := by decide +kernel
theorem dX11_isWord_25 : decode cX11_isWord 25 = .ok (.ireturn, 1) := by decide +kernel
theorem dX11_isWord_26 : decode cX11_isWord 26 = .ok (.iconst 0, 1) := by decide +kernel
theorem dX11_isWord_27 : decode cX11_isWord 27 = .ok (.istore_n 2, 1) := by decide +kernel
theorem dX11_isWord_28 : decode cX11_isWord 28 = .ok (.iload_n 2, 1) := by decide +kernel
theorem dX11_isWord_29 : decode cX11_isWord 29 = .ok (.aload_n 1, 1) := by decide +kernel
theorem dX11_isWord_30 : decode cX11_isWord 30 = .ok (.invokevirtual 112, 3) := by decide +kernel
theorem dX11_isWord_33 : decode cX11_isWord 33 = .ok (.if_icmp .ge 30, 3) := by decide +kernel
theorem dX11_isWord_36 : decode cX11_isWord 36 = .ok (.aload_n 0, 1) := by decide +kernel
theorem dX11_isWord_37 : decode cX11_isWord 37 = .ok (.getfield 16, 3) := by decide +kernel
theorem dX11_isWord_40 : decode cX11_isWord 40 = .ok (.aload_n 0, 1) := by decide +kernel
theorem dX11_isWord_41 : decode cX11_isWord 41 = .ok (.getfield 89, 3) := by decide +kernel
theorem dX11_isWord_44 : decode cX11_isWord 44 = .ok (.iload_n 2, 1) := by decide +kernel
theorem dX11_isWord_45 : decode cX11_isWord 45 = .ok (.iadd, 1) := by decide +kernel
theorem dX11_isWord_46 : decode cX11_isWord 46 = .ok (.iaload, 1) := by decide +kernel
theorem dX11_isWord_47 : decode cX11_isWord 47 = .ok (.aload_n 1, 1) := by decide +kernel
theorem dX11_isWord_48 : decode cX11_isWord 48 = .ok (.iload_n 2, 1) := by decide +kernel
theorem dX11_isWord_49 : decode cX11_isWord 49 = .ok (.invokevirtual 118, 3) := by decide +kernel
theorem dX11_isWord_52 : decode cX11_isWord 52 = .ok (.if_icmp .eq 5, 3) := by decide +kernel
theorem dX11_isWord_55 : decode cX11_isWord 55 = .ok (.iconst 0, 1) := by decide +kernel
theorem dX11_isWord_56 : decode cX11_isWord 56 = .ok (.ireturn, 1) := by decide +kernel
theorem dX11_isWord_57 : decode cX11_isWord 57 = .ok (.iinc 2 1, 3) := by decide +kernel
theorem dX11_isWord_60 : decode cX11_isWord 60 = .ok (.goto (-32), 3) := by decide +kernel
theorem dX11_isWord_63 : decode cX11_isWord 63 = .ok (.iconst 1, 1) := by decide +kernel
theorem dX11_isWord_64 : decode cX11_isWord 64 = .ok (.ireturn, 1) := by decide +kernel
theorem dX11_passes_0 : decode cX11_passes 0 = .ok (.iload_n 1, 1) := by decide +kernel
theorem dX11_passes_1 : decode cX11_passes 1 = .ok (.ifCond .ne 8, 3) := by decide +kernel
theorem dX11_passes_4 : decode cX11_passes 4 = .ok (.aload_n 0, 1) := by decide +kernel
theorem dX11_passes_5 : decode cX11_passes 5 = .ok (.iconst 1, 1) := by decide +kernel
theorem dX11_passes_6 : decode cX11_passes 6 = .ok (.invokevirtual 122, 3) := by decide +kernel
theorem dX11_passes_9 : decode cX11_passes 9 = .ok (.aload_n 0, 1) := by decide +kernel
theorem dX11_passes_10 : decode cX11_passes 10 = .ok (.getfield 105, 3) := by decide +kernel
theorem dX11_passes_13 : decode cX11_passes 13 = .ok (.ifCond .ne 7, 3) := by decide +kernel
theorem dX11_passes_16 : decode cX11_passes 16 = .ok (.aload_n 0, 1) := by decide +kernel
theorem dX11_passes_17 : decode cX11_passes 17 = .ok (.invokevirtual 126, 3) := by decide +kernel
theorem dX11_passes_20 : decode cX11_passes 20 = .ok (.return_, 1) := by decide +kernel
theorem dX11_reads_0 : decode cX11_reads 0 = .ok (.aload_n 0, 1) := by decide +kernel
theorem dX11_reads_1 : decode cX11_reads 1 = .ok (.getfield 92, 3) := by decide +kernel
theorem dX11_reads_4 : decode cX11_reads 4 = .ok (.istore_n 3, 1) := by decide +kernel
theorem dX11_reads_5 : decode cX11_reads 5 = .ok (.aload_n 0, 1) := by decide +kernel
theorem dX11_reads_6 : decode cX11_reads 6 = .ok (.getfield 95, 3) := by decide +kernel
theorem dX11_reads_9 : decode cX11_reads 9 = .ok (.iconst 2, 1) := by decide +kernel
theorem dX11_reads_10 : decode cX11_reads 10 = .ok (.if_icmp .eq 11, 3) := by decide +kernel
theorem dX11_reads_13 : decode cX11_reads 13 = .ok (.aload_n 0, 1) := by decide +kernel
theorem dX11_reads_14 : decode cX11_reads 14 = .ok (.iconst 1, 1) := by decide +kernel
theorem dX11_reads_15 : decode cX11_reads 15 = .ok (.invokevirtual 122, 3) := by decide +kernel
theorem dX11_reads_18 : decode cX11_reads 18 = .ok (.goto 20, 3) := by decide +kernel
theorem dX11_reads_21 : decode cX11_reads 21 = .ok (.iload_n 3, 1) := by decide +kernel
theorem dX11_reads_22 : decode cX11_reads 22 = .ok (.i2l, 1) := by decide +kernel
theorem dX11_reads_23 : decode cX11_reads 23 = .ok (.iload_n 1, 1) := by decide +kernel
theorem dX11_reads_24 : decode cX11_reads 24 = .ok (.i2l, 1) := by decide +kernel
theorem dX11_reads_25 : decode cX11_reads 25 = .ok (.iload_n 2, 1) := by decide +kernel
theorem dX11_reads_26 : decode cX11_reads 26 = .ok (.i2l, 1) := by decide +kernel
theorem dX11_reads_27 : decode cX11_reads 27 = .ok (.invokestatic 78, 3) := by decide +kernel
theorem dX11_reads_30 : decode cX11_reads 30 = .ok (.ifCond .ne 8, 3) := by decide +kernel
theorem dX11_reads_33 : decode cX11_reads 33 = .ok (.aload_n 0, 1) := by decide +kernel
theorem dX11_reads_34 : decode cX11_reads 34 = .ok (.iconst 2, 1) := by decide +kernel
theorem dX11_reads_35 : decode cX11_reads 35 = .ok (.invokevirtual 122, 3) := by decide +kernel
theorem dX11_reads_38 : decode cX11_reads 38 = .ok (.aload_n 0, 1) := by decide +kernel
theorem dX11_reads_39 : decode cX11_reads 39 = .ok (.iconst 1, 1) := by decide +kernel
theorem dX11_reads_40 : decode cX11_reads 40 = .ok (.invokevirtual 129, 3) := by decide +kernel
theorem dX11_reads_43 : decode cX11_reads 43 = .ok (.iload_n 3, 1) := by decide +kernel
theorem dX11_reads_44 : decode cX11_reads 44 = .ok (.ireturn, 1) := by decide +kernel
theorem dX11_readsVersion_0 : decode cX11_readsVersion 0 = .ok (.aload_n 0, 1) := by decide +kernel
theorem dX11_readsVersion_1 : decode cX11_readsVersion 1 = .ok (.getfield 95, 3) := by decide +kernel
theorem dX11_readsVersion_4 : decode cX11_readsVersion 4 = .ok (.iconst 2, 1) := by decide +kernel
theorem dX11_readsVersion_5 : decode cX11_readsVersion 5 = .ok (.if_icmp .ne 45, 3) := by decide +kernel
theorem dX11_readsVersion_8 : decode cX11_readsVersion 8 = .ok (.aload_n 0, 1) := by decide +kernel
theorem dX11_readsVersion_9 : decode cX11_readsVersion 9 = .ok (.getfield 92, 3) := by decide +kernel
theorem dX11_readsVersion_12 : decode cX11_readsVersion 12 = .ok (.aload_n 0, 1) := by decide +kernel
theorem dX11_readsVersion_13 : decode cX11_readsVersion 13 = .ok (.getfield 9, 3) := by decide +kernel
theorem dX11_readsVersion_16 : decode cX11_readsVersion 16 = .ok (.iconst 2, 1) := by decide +kernel
theorem dX11_readsVersion_17 : decode cX11_readsVersion 17 = .ok (.iaload, 1) := by decide +kernel
theorem dX11_readsVersion_18 : decode cX11_readsVersion 18 = .ok (.if_icmp .ge 32, 3) := by decide +kernel
theorem dX11_readsVersion_21 : decode cX11_readsVersion 21 = .ok (.aload_n 0, 1) := by decide +kernel
theorem dX11_readsVersion_22 : decode cX11_readsVersion 22 = .ok (.getfield 9, 3) := by decide +kernel
theorem dX11_readsVersion_25 : decode cX11_readsVersion 25 = .ok (.sipush 186, 3) := by decide +kernel
theorem dX11_readsVersion_28 : decode cX11_readsVersion 28 = .ok (.aload_n 0, 1) := by decide +kernel
theorem dX11_readsVersion_29 : decode cX11_readsVersion 29 = .ok (.getfield 92, 3) := by decide +kernel
theorem dX11_readsVersion_32 : decode cX11_readsVersion 32 = .ok (.iadd, 1) := by decide +kernel
theorem dX11_readsVersion_33 : decode cX11_readsVersion 33 = .ok (.iaload, 1) := by decide +kernel
theorem dX11_readsVersion_34 : decode cX11_readsVersion 34 = .ok (.i2l, 1) := by decide +kernel
theorem dX11_readsVersion_35 : decode cX11_readsVersion 35 = .ok (.iload_n 1, 1) := by decide +kernel
theorem dX11_readsVersion_36 : decode cX11_readsVersion 36 = .ok (.i2l, 1) := by decide +kernel
theorem dX11_readsVersion_37 : decode cX11_readsVersion 37 = .ok (.iload_n 2, 1) := by decide +kernel
theorem dX11_readsVersion_38 : decode cX11_readsVersion 38 = .ok (.i2l, 1) := by decide +kernel
theorem dX11_readsVersion_39 : decode cX11_readsVersion 39 = .ok (.invokestatic 78, 3) := by decide +kernel
theorem dX11_readsVersion_42 : decode cX11_readsVersion 42 = .ok (.ifCond .ne 8, 3) := by decide +kernel
theorem dX11_readsVersion_45 : decode cX11_readsVersion 45 = .ok (.aload_n 0, 1) := by decide +kernel
theorem dX11_readsVersion_46 : decode cX11_readsVersion 46 = .ok (.iconst 2, 1) := by decide +kernel
theorem dX11_readsVersion_47 : decode cX11_readsVersion 47 = .ok (.invokevirtual 122, 3) := by decide +kernel
theorem dX11_readsVersion_50 : decode cX11_readsVersion 50 = .ok (.aload_n 0, 1) := by decide +kernel
theorem dX11_readsVersion_51 : decode cX11_readsVersion 51 = .ok (.iconst 0, 1) := by decide +kernel
theorem dX11_readsVersion_52 : decode cX11_readsVersion 52 = .ok (.aload_n 0, 1) := by decide +kernel
theorem dX11_readsVersion_53 : decode cX11_readsVersion 53 = .ok (.getfield 9, 3) := by decide +kernel
theorem dX11_readsVersion_56 : decode cX11_readsVersion 56 = .ok (.iconst 2, 1) := by decide +kernel
theorem dX11_readsVersion_57 : decode cX11_readsVersion 57 = .ok (.iaload, 1) := by decide +kernel
theorem dX11_readsVersion_58 : decode cX11_readsVersion 58 = .ok (.iconst 1, 1) := by decide +kernel
theorem dX11_readsVersion_59 : decode cX11_readsVersion 59 = .ok (.isub, 1) := by decide +kernel
theorem dX11_readsVersion_60 : decode cX11_readsVersion 60 = .ok (.invokevirtual 133, 3) := by decide +kernel
theorem dX11_readsVersion_63 : decode cX11_readsVersion 63 = .ok (.ireturn, 1) := by decide +kernel
theorem dX11_readsPlan_0 : decode cX11_readsPlan 0 = .ok (.aload_n 0, 1) := by decide +kernel
theorem dX11_readsPlan_1 : decode cX11_readsPlan 1 = .ok (.aload_n 0, 1) := by decide +kernel
theorem dX11_readsPlan_2 : decode cX11_readsPlan 2 = .ok (.ldc 136, 2) := by decide +kernel
theorem dX11_readsPlan_4 : decode cX11_readsPlan 4 = .ok (.invokevirtual 138, 3) := by decide +kernel
theorem dX11_readsPlan_7 : decode cX11_readsPlan 7 = .ok (.invokevirtual 129, 3) := by decide +kernel
theorem dX11_readsPlan_10 : decode cX11_readsPlan 10 = .ok (.aload_n 0, 1) := by decide +kernel
theorem dX11_readsPlan_11 : decode cX11_readsPlan 11 = .ok (.aload_n 0, 1) := by decide +kernel
theorem dX11_readsPlan_12 : decode cX11_readsPlan 12 = .ok (.getfield 105, 3) := by decide +kernel
theorem dX11_readsPlan_15 : decode cX11_readsPlan 15 = .ok (.ifCond .ne 12, 3) := by decide +kernel
theorem dX11_readsPlan_18 : decode cX11_readsPlan 18 = .ok (.aload_n 0, 1) := by decide +kernel
theorem dX11_readsPlan_19 : decode cX11_readsPlan 19 = .ok (.ldc 142, 2) := by decide +kernel
theorem dX11_readsPlan_21 : decode cX11_readsPlan 21 = .ok (.invokevirtual 138, 3) := by decide +kernel
theorem dX11_readsPlan_24 : decode cX11_readsPlan 24 = .ok (.ifCond .eq 7, 3) := by decide +kernel
theorem dX11_readsPlan_27 : decode cX11_readsPlan 27 = .ok (.iconst 1, 1) := by decide +kernel
theorem dX11_readsPlan_28 : decode cX11_readsPlan 28 = .ok (.goto 4, 3) := by decide +kernel
theorem dX11_readsPlan_31 : decode cX11_readsPlan 31 = .ok (.iconst 0, 1) := by decide +kernel
theorem dX11_readsPlan_32 : decode cX11_readsPlan 32 = .ok (.invokevirtual 129, 3) := by decide +kernel
theorem dX11_readsPlan_35 : decode cX11_readsPlan 35 = .ok (.aload_n 0, 1) := by decide +kernel
theorem dX11_readsPlan_36 : decode cX11_readsPlan 36 = .ok (.getfield 9, 3) := by decide +kernel
theorem dX11_readsPlan_39 : decode cX11_readsPlan 39 = .ok (.iconst 0, 1) := by decide +kernel
theorem dX11_readsPlan_40 : decode cX11_readsPlan 40 = .ok (.aload_n 0, 1) := by decide +kernel
theorem dX11_readsPlan_41 : decode cX11_readsPlan 41 = .ok (.iconst 0, 1) := by decide +kernel
theorem dX11_readsPlan_42 : decode cX11_readsPlan 42 = .ok (.iconst 1, 1) := by decide +kernel
theorem dX11_readsPlan_43 : decode cX11_readsPlan 43 = .ok (.invokevirtual 133, 3) := by decide +kernel
theorem dX11_readsPlan_46 : decode cX11_readsPlan 46 = .ok (.iastore, 1) := by decide +kernel
theorem dX11_readsPlan_47 : decode cX11_readsPlan 47 = .ok (.aload_n 0, 1) := by decide +kernel
theorem dX11_readsPlan_48 : decode cX11_readsPlan 48 = .ok (.aload_n 0, 1) := by decide +kernel
theorem dX11_readsPlan_49 : decode cX11_readsPlan 49 = .ok (.getfield 105, 3) := by decide +kernel
theorem dX11_readsPlan_52 : decode cX11_readsPlan 52 = .ok (.ifCond .ne 12, 3) := by decide +kernel
theorem dX11_readsPlan_55 : decode cX11_readsPlan 55 = .ok (.aload_n 0, 1) := by decide +kernel
theorem dX11_readsPlan_56 : decode cX11_readsPlan 56 = .ok (.ldc 144, 2) := by decide +kernel
theorem dX11_readsPlan_58 : decode cX11_readsPlan 58 = .ok (.invokevirtual 138, 3) := by decide +kernel
theorem dX11_readsPlan_61 : decode cX11_readsPlan 61 = .ok (.ifCond .eq 7, 3) := by decide +kernel
theorem dX11_readsPlan_64 : decode cX11_readsPlan 64 = .ok (.iconst 1, 1) := by decide +kernel
theorem dX11_readsPlan_65 : decode cX11_readsPlan 65 = .ok (.goto 4, 3) := by decide +kernel
theorem dX11_readsPlan_68 : decode cX11_readsPlan 68 = .ok (.iconst 0, 1) := by decide +kernel
theorem dX11_readsPlan_69 : decode cX11_readsPlan 69 = .ok (.invokevirtual 129, 3) := by decide +kernel
theorem dX11_readsPlan_72 : decode cX11_readsPlan 72 = .ok (.aload_n 0, 1) := by decide +kernel
theorem dX11_readsPlan_73 : decode cX11_readsPlan 73 = .ok (.getfield 9, 3) := by decide +kernel
theorem dX11_readsPlan_76 : decode cX11_readsPlan 76 = .ok (.iconst 1, 1) := by decide +kernel
theorem dX11_readsPlan_77 : decode cX11_readsPlan 77 = .ok (.aload_n 0, 1) := by decide +kernel
theorem dX11_readsPlan_78 : decode cX11_readsPlan 78 = .ok (.iconst 1, 1) := by decide +kernel
theorem dX11_readsPlan_79 : decode cX11_readsPlan 79 = .ok (.iconst 4, 1) := by decide +kernel
theorem dX11_readsPlan_80 : decode cX11_readsPlan 80 = .ok (.invokevirtual 133, 3) := by decide +kernel
theorem dX11_readsPlan_83 : decode cX11_readsPlan 83 = .ok (.iastore, 1) := by decide +kernel
theorem dX11_readsPlan_84 : decode cX11_readsPlan 84 = .ok (.return_, 1) := by decide +kernel
theorem dX11_how_0 : decode cX11_how 0 = .ok (.aload_n 0, 1) := by decide +kernel
theorem dX11_how_1 : decode cX11_how 1 = .ok (.ldc 146, 2) := by decide +kernel
theorem dX11_how_3 : decode cX11_how 3 = .ok (.invokevirtual 138, 3) := by decide +kernel
theorem dX11_how_6 : decode cX11_how 6 = .ok (.ifCond .eq 7, 3) := by decide +kernel
theorem dX11_how_9 : decode cX11_how 9 = .ok (.iconst 0, 1) := by decide +kernel
theorem dX11_how_10 : decode cX11_how 10 = .ok (.goto 43, 3) := by decide +kernel
theorem dX11_how_13 : decode cX11_how 13 = .ok (.aload_n 0, 1) := by decide +kernel
theorem dX11_how_14 : decode cX11_how 14 = .ok (.ldc 148, 2) := by decide +kernel
theorem dX11_how_16 : decode cX11_how 16 = .ok (.invokevirtual 138, 3) := by decide +kernel
theorem dX11_how_19 : decode cX11_how 19 = .ok (.ifCond .eq 7, 3) := by decide +kernel
theorem dX11_how_22 : decode cX11_how 22 = .ok (.iconst 1, 1) := by decide +kernel
theorem dX11_how_23 : decode cX11_how 23 = .ok (.goto 30, 3) := by decide +kernel
theorem dX11_how_26 : decode cX11_how 26 = .ok (.aload_n 0, 1) := by decide +kernel
theorem dX11_how_27 : decode cX11_how 27 = .ok (.ldc 150, 2) := by decide +kernel
theorem dX11_how_29 : decode cX11_how 29 = .ok (.invokevirtual 138, 3) := by decide +kernel
theorem dX11_how_32 : decode cX11_how 32 = .ok (.ifCond .eq 7, 3) := by decide +kernel
theorem dX11_how_35 : decode cX11_how 35 = .ok (.iconst 2, 1) := by decide +kernel
theorem dX11_how_36 : decode cX11_how 36 = .ok (.goto 17, 3) := by decide +kernel
theorem dX11_how_39 : decode cX11_how 39 = .ok (.aload_n 0, 1) := by decide +kernel
theorem dX11_how_40 : decode cX11_how 40 = .ok (.ldc 152, 2) := by decide +kernel
theorem dX11_how_42 : decode cX11_how 42 = .ok (.invokevirtual 138, 3) := by decide +kernel
theorem dX11_how_45 : decode cX11_how 45 = .ok (.ifCond .eq 7, 3) := by decide +kernel
theorem dX11_how_48 : decode cX11_how 48 = .ok (.iconst 3, 1) := by decide +kernel
theorem dX11_how_49 : decode cX11_how 49 = .ok (.goto 4, 3) := by decide +kernel
theorem dX11_how_52 : decode cX11_how 52 = .ok (.iconst (-1), 1) := by decide +kernel
theorem dX11_how_53 : decode cX11_how 53 = .ok (.ireturn, 1) := by decide +kernel
theorem dX11_readsVersion__0 : decode cX11_readsVersion_ 0 = .ok (.aload_n 0, 1) := by decide +kernel
theorem dX11_readsVersion__1 : decode cX11_readsVersion_ 1 = .ok (.invokevirtual 154, 3) := by decide +kernel
theorem dX11_readsVersion__4 : decode cX11_readsVersion_ 4 = .ok (.istore_n 1, 1) := by decide +kernel
theorem dX11_readsVersion__5 : decode cX11_readsVersion_ 5 = .ok (.iload_n 1, 1) := by decide +kernel
theorem dX11_readsVersion__6 : decode cX11_readsVersion_ 6 = .ok (.iconst (-1), 1) := by decide +kernel
theorem dX11_readsVersion__7 : decode cX11_readsVersion_ 7 = .ok (.if_icmp .ne 11, 3) := by decide +kernel
theorem dX11_readsVersion__10 : decode cX11_readsVersion_ 10 = .ok (.aload_n 0, 1) := by decide +kernel
theorem dX11_readsVersion__11 : decode cX11_readsVersion_ 11 = .ok (.iconst 1, 1) := by decide +kernel
theorem dX11_readsVersion__12 : decode cX11_readsVersion_ 12 = .ok (.invokevirtual 122, 3) := by decide +kernel
theorem dX11_readsVersion__15 : decode cX11_readsVersion_ 15 = .ok (.goto 19, 3) := by decide +kernel
theorem dX11_readsVersion__18 : decode cX11_readsVersion_ 18 = .ok (.aload_n 0, 1) := by decide +kernel
theorem dX11_readsVersion__19 : decode cX11_readsVersion_ 19 = .ok (.getfield 9, 3) := by decide +kernel
theorem dX11_readsVersion__22 : decode cX11_readsVersion_ 22 = .ok (.iconst 2, 1) := by decide +kernel
theorem dX11_readsVersion__23 : decode cX11_readsVersion_ 23 = .ok (.iaload, 1) := by decide +kernel
theorem dX11_readsVersion__24 : decode cX11_readsVersion_ 24 = .ok (.bipush 20, 2) := by decide +kernel
theorem dX11_readsVersion__26 : decode cX11_readsVersion_ 26 = .ok (.if_icmp .ne 8, 3) := by decide +kernel
theorem dX11_readsVersion__29 : decode cX11_readsVersion_ 29 = .ok (.aload_n 0, 1) := by decide +kernel
theorem dX11_readsVersion__30 : decode cX11_readsVersion_ 30 = .ok (.iconst 3, 1) := by decide +kernel
theorem dX11_readsVersion__31 : decode cX11_readsVersion_ 31 = .ok (.invokevirtual 122, 3) := by decide +kernel
theorem dX11_readsVersion__34 : decode cX11_readsVersion_ 34 = .ok (.aload_n 0, 1) := by decide +kernel
theorem dX11_readsVersion__35 : decode cX11_readsVersion_ 35 = .ok (.iconst 1, 1) := by decide +kernel
theorem dX11_readsVersion__36 : decode cX11_readsVersion_ 36 = .ok (.invokevirtual 129, 3) := by decide +kernel
theorem dX11_readsVersion__39 : decode cX11_readsVersion_ 39 = .ok (.iconst (-1), 1) := by decide +kernel
theorem dX11_readsVersion__40 : decode cX11_readsVersion_ 40 = .ok (.istore_n 2, 1) := by decide +kernel
theorem dX11_readsVersion__41 : decode cX11_readsVersion_ 41 = .ok (.iconst (-1), 1) := by decide +kernel
theorem dX11_readsVersion__42 : decode cX11_readsVersion_ 42 = .ok (.istore_n 3, 1) := by decide +kernel
theorem dX11_readsVersion__43 : decode cX11_readsVersion_ 43 = .ok (.iconst 0, 1) := by decide +kernel
theorem dX11_readsVersion__44 : decode cX11_readsVersion_ 44 = .ok (.istore 4, 2) := by decide +kernel
theorem dX11_readsVersion__46 : decode cX11_readsVersion_ 46 = .ok (.iconst 0, 1) := by decide +kernel
theorem dX11_readsVersion__47 : decode cX11_readsVersion_ 47 = .ok (.istore 5, 2) := by decide +kernel
theorem dX11_readsVersion__49 : decode cX11_readsVersion_ 49 = .ok (.iload_n 1, 1) := by decide +kernel
theorem dX11_readsVersion__50 : decode cX11_readsVersion_ 50 = .ok (.ifCond .le 30, 3) := by decide +kernel
theorem dX11_readsVersion__53 : decode cX11_readsVersion_ 53 = .ok (.aload_n 0, 1) := by decide +kernel
theorem dX11_readsVersion__54 : decode cX11_readsVersion_ 54 = .ok (.iload_n 1, 1) := by decide +kernel
theorem dX11_readsVersion__55 : decode cX11_readsVersion_ 55 = .ok (.iconst 3, 1) := by decide +kernel
theorem dX11_readsVersion__56 : decode cX11_readsVersion_ 56 = .ok (.if_icmp .ne 7, 3) := by decide +kernel
theorem dX11_readsVersion__59 : decode cX11_readsVersion_ 59 = .ok (.iconst 1, 1) := by decide +kernel
theorem dX11_readsVersion__60 : decode cX11_readsVersion_ 60 = .ok (.goto 4, 3) := by decide +kernel
theorem dX11_readsVersion__63 : decode cX11_readsVersion_ 63 = .ok (.iconst 0, 1) := by decide +kernel
theorem dX11_readsVersion__64 : decode cX11_readsVersion_ 64 = .ok (.iload_n 1, 1) := by decide +kernel
theorem dX11_readsVersion__65 : decode cX11_readsVersion_ 65 = .ok (.iconst 1, 1) := by decide +kernel
theorem dX11_readsVersion__66 : decode cX11_readsVersion_ 66 = .ok (.if_icmp .ne 8, 3) := by decide +kernel
theorem dX11_readsVersion__69 : decode cX11_readsVersion_ 69 = .ok (.bipush 23, 2) := by decide +kernel
theorem dX11_readsVersion__71 : decode cX11_readsVersion_ 71 = .ok (.goto 5, 3) := by decide +kernel
theorem dX11_readsVersion__74 : decode cX11_readsVersion_ 74 = .ok (.bipush 24, 2) := by decide +kernel
theorem dX11_readsVersion__76 : decode cX11_readsVersion_ 76 = .ok (.invokevirtual 157, 3) := by decide +kernel
theorem dX11_readsVersion__79 : decode cX11_readsVersion_ 79 = .ok (.istore_n 2, 1) := by decide +kernel
theorem dX11_readsVersion__80 : decode cX11_readsVersion_ 80 = .ok (.iload_n 1, 1) := by decide +kernel
theorem dX11_readsVersion__81 : decode cX11_readsVersion_ 81 = .ok (.iconst 2, 1) := by decide +kernel
theorem dX11_readsVersion__82 : decode cX11_readsVersion_ 82 = .ok (.if_icmp .ne 29, 3) := by decide +kernel
theorem dX11_readsVersion__85 : decode cX11_readsVersion_ 85 = .ok (.aload_n 0, 1) := by decide +kernel
theorem dX11_readsVersion__86 : decode cX11_readsVersion_ 86 = .ok (.getfield 105, 3) := by decide +kernel
theorem dX11_readsVersion__89 : decode cX11_readsVersion_ 89 = .ok (.ifCond .ne 22, 3) := by decide +kernel
theorem dX11_readsVersion__92 : decode cX11_readsVersion_ 92 = .ok (.aload_n 0, 1) := by decide +kernel
theorem dX11_readsVersion__93 : decode cX11_readsVersion_ 93 = .ok (.iconst 0, 1) := by decide +kernel
theorem dX11_readsVersion__94 : decode cX11_readsVersion_ 94 = .ok (.bipush 24, 2) := by decide +kernel
theorem dX11_readsVersion__96 : decode cX11_readsVersion_ 96 = .ok (.aload_n 0, 1) := by decide +kernel
theorem dX11_readsVersion__97 : decode cX11_readsVersion_ 97 = .ok (.getfield 9, 3) := by decide +kernel
theorem dX11_readsVersion__100 : decode cX11_readsVersion_ 100 = .ok (.sipush 186, 3) := by decide +kernel
theorem dX11_readsVersion__103 : decode cX11_readsVersion_ 103 = .ok (.iload_n 2, 1) := by decide +kernel
theorem dX11_readsVersion__104 : decode cX11_readsVersion_ 104 = .ok (.iadd, 1) := by decide +kernel
theorem dX11_readsVersion__105 : decode cX11_readsVersion_ 105 = .ok (.iaload, 1) := by decide +kernel
theorem dX11_readsVersion__106 : decode cX11_readsVersion_ 106 = .ok (.isub, 1) := by decide +kernel
theorem dX11_readsVersion__107 : decode cX11_readsVersion_ 107 = .ok (.invokevirtual 157, 3) := by decide +kernel
theorem dX11_readsVersion__110 : decode cX11_readsVersion_ 110 = .ok (.istore_n 3, 1) := by decide +kernel
theorem dX11_readsVersion__111 : decode cX11_readsVersion_ 111 = .ok (.iload_n 1, 1) := by decide +kernel
theorem dX11_readsVersion__112 : decode cX11_readsVersion_ 112 = .ok (.iconst 1, 1) := by decide +kernel
theorem dX11_readsVersion__113 : decode cX11_readsVersion_ 113 = .ok (.if_icmp .ne 54, 3) := by decide +kernel
theorem dX11_readsVersion__116 : decode cX11_readsVersion_ 116 = .ok (.aload_n 0, 1) := by decide +kernel
theorem dX11_readsVersion__117 : decode cX11_readsVersion_ 117 = .ok (.getfield 105, 3) := by decide +kernel
theorem dX11_readsVersion__120 : decode cX11_readsVersion_ 120 = .ok (.ifCond .ne 47, 3) := by decide +kernel
theorem dX11_readsVersion__123 : decode cX11_readsVersion_ 123 = .ok (.aload_n 0, 1) := by decide +kernel
theorem dX11_readsVersion__124 : decode cX11_readsVersion_ 124 = .ok (.iconst 0, 1) := by decide +kernel
theorem dX11_readsVersion__125 : decode cX11_readsVersion_ 125 = .ok (.sipush 999, 3) := by decide +kernel
theorem dX11_readsVersion__128 : decode cX11_readsVersion_ 128 = .ok (.invokevirtual 133, 3) := by decide +kernel
theorem dX11_readsVersion__131 : decode cX11_readsVersion_ 131 = .ok (.istore 4, 2) := by decide +kernel
theorem dX11_readsVersion__133 : decode cX11_readsVersion_ 133 = .ok (.aload_n 0, 1) := by decide +kernel
theorem dX11_readsVersion__134 : decode cX11_readsVersion_ 134 = .ok (.aload_n 0, 1) := by decide +kernel
theorem dX11_readsVersion__135 : decode cX11_readsVersion_ 135 = .ok (.getfield 105, 3) := by decide +kernel
theorem dX11_readsVersion__138 : decode cX11_readsVersion_ 138 = .ok (.ifCond .ne 12, 3) := by decide +kernel
theorem dX11_readsVersion__141 : decode cX11_readsVersion_ 141 = .ok (.aload_n 0, 1) := by decide +kernel
theorem dX11_readsVersion__142 : decode cX11_readsVersion_ 142 = .ok (.ldc 160, 2) := by decide +kernel
theorem dX11_readsVersion__144 : decode cX11_readsVersion_ 144 = .ok (.invokevirtual 138, 3) := by decide +kernel
theorem dX11_readsVersion__147 : decode cX11_readsVersion_ 147 = .ok (.ifCond .eq 7, 3) := by decide +kernel
theorem dX11_readsVersion__150 : decode cX11_readsVersion_ 150 = .ok (.iconst 1, 1) := by decide +kernel
theorem dX11_readsVersion__151 : decode cX11_readsVersion_ 151 = .ok (.goto 4, 3) := by decide +kernel
theorem dX11_readsVersion__154 : decode cX11_readsVersion_ 154 = .ok (.iconst 0, 1) := by decide +kernel
theorem dX11_readsVersion__155 : decode cX11_readsVersion_ 155 = .ok (.invokevirtual 129, 3) := by decide +kernel
theorem dX11_readsVersion__158 : decode cX11_readsVersion_ 158 = .ok (.aload_n 0, 1) := by decide +kernel
theorem dX11_readsVersion__159 : decode cX11_readsVersion_ 159 = .ok (.iconst 1, 1) := by decide +kernel
theorem dX11_readsVersion__160 : decode cX11_readsVersion_ 160 = .ok (.bipush 99, 2) := by decide +kernel
theorem dX11_readsVersion__162 : decode cX11_readsVersion_ 162 = .ok (.invokevirtual 133, 3) := by decide +kernel
theorem dX11_readsVersion__165 : decode cX11_readsVersion_ 165 = .ok (.istore 5, 2) := by decide +kernel
theorem dX11_readsVersion__167 : decode cX11_readsVersion_ 167 = .ok (.aload_n 0, 1) := by decide +kernel
theorem dX11_readsVersion__168 : decode cX11_readsVersion_ 168 = .ok (.getfield 105, 3) := by decide +kernel
theorem dX11_readsVersion__171 : decode cX11_readsVersion_ 171 = .ok (.ifCond .ne 14, 3) := by decide +kernel
theorem dX11_readsVersion__174 : decode cX11_readsVersion_ 174 = .ok (.aload_n 0, 1) := by decide +kernel
theorem dX11_readsVersion__175 : decode cX11_readsVersion_ 175 = .ok (.iload_n 1, 1) := by decide +kernel
theorem dX11_readsVersion__176 : decode cX11_readsVersion_ 176 = .ok (.iload_n 2, 1) := by decide +kernel
theorem dX11_readsVersion__177 : decode cX11_readsVersion_ 177 = .ok (.iload_n 3, 1) := by decide +kernel
theorem dX11_readsVersion__178 : decode cX11_readsVersion_ 178 = .ok (.iload 4, 2) := by decide +kernel
theorem dX11_readsVersion__180 : decode cX11_readsVersion_ 180 = .ok (.iload 5, 2) := by decide +kernel
theorem dX11_readsVersion__182 : decode cX11_readsVersion_ 182 = .ok (.invokevirtual 162, 3) := by decide +kernel
theorem dX11_readsVersion__185 : decode cX11_readsVersion_ 185 = .ok (.return_, 1) := by decide +kernel
theorem dX11_makes_0 : decode cX11_makes 0 = .ok (.aload_n 0, 1) := by decide +kernel
theorem dX11_makes_1 : decode cX11_makes 1 = .ok (.getfield 9, 3) := by decide +kernel
theorem dX11_makes_4 : decode cX11_makes 4 = .ok (.iconst 2, 1) := by decide +kernel
theorem dX11_makes_5 : decode cX11_makes 5 = .ok (.iaload, 1) := by decide +kernel
theorem dX11_makes_6 : decode cX11_makes 6 = .ok (.istore 6, 2) := by decide +kernel
theorem dX11_makes_8 : decode cX11_makes 8 = .ok (.aload_n 0, 1) := by decide +kernel
theorem dX11_makes_9 : decode cX11_makes 9 = .ok (.getfield 9, 3) := by decide +kernel
theorem dX11_makes_12 : decode cX11_makes 12 = .ok (.bipush 6, 2) := by decide +kernel
theorem dX11_makes_14 : decode cX11_makes 14 = .ok (.iload 6, 2) := by decide +kernel
theorem dX11_makes_16 : decode cX11_makes 16 = .ok (.iadd, 1) := by decide +kernel
theorem dX11_makes_17 : decode cX11_makes 17 = .ok (.iload_n 1, 1) := by decide +kernel
theorem dX11_makes_18 : decode cX11_makes 18 = .ok (.iastore, 1) := by decide +kernel
theorem dX11_makes_19 : decode cX11_makes 19 = .ok (.aload_n 0, 1) := by decide +kernel
theorem dX11_makes_20 : decode cX11_makes 20 = .ok (.getfield 9, 3) := by decide +kernel
theorem dX11_makes_23 : decode cX11_makes 23 = .ok (.bipush 36, 2) := by decide +kernel
theorem dX11_makes_25 : decode cX11_makes 25 = .ok (.iload 6, 2) := by decide +kernel
theorem dX11_makes_27 : decode cX11_makes 27 = .ok (.iadd, 1) := by decide +kernel
theorem dX11_makes_28 : decode cX11_makes 28 = .ok (.iload_n 2, 1) := by decide +kernel
theorem dX11_makes_29 : decode cX11_makes 29 = .ok (.iastore, 1) := by decide +kernel
theorem dX11_makes_30 : decode cX11_makes 30 = .ok (.aload_n 0, 1) := by decide +kernel
theorem dX11_makes_31 : decode cX11_makes 31 = .ok (.getfield 9, 3) := by decide +kernel
theorem dX11_makes_34 : decode cX11_makes 34 = .ok (.bipush 66, 2) := by decide +kernel
theorem dX11_makes_36 : decode cX11_makes 36 = .ok (.iload 6, 2) := by decide +kernel
theorem dX11_makes_38 : decode cX11_makes 38 = .ok (.iadd, 1) := by decide +kernel
theorem dX11_makes_39 : decode cX11_makes 39 = .ok (.iload_n 3, 1) := by decide +kernel
theorem dX11_makes_40 : decode cX11_makes 40 = .ok (.iastore, 1) := by decide +kernel
theorem dX11_makes_41 : decode cX11_makes 41 = .ok (.aload_n 0, 1) := by decide +kernel
theorem dX11_makes_42 : decode cX11_makes 42 = .ok (.getfield 9, 3) := by decide +kernel
theorem dX11_makes_45 : decode cX11_makes 45 = .ok (.bipush 96, 2) := by decide +kernel
theorem dX11_makes_47 : decode cX11_makes 47 = .ok (.iload 6, 2) := by decide +kernel
theorem dX11_makes_49 : decode cX11_makes 49 = .ok (.iadd, 1) := by decide +kernel
theorem dX11_makes_50 : decode cX11_makes 50 = .ok (.iconst (-1), 1) := by decide +kernel
theorem dX11_makes_51 : decode cX11_makes 51 = .ok (.iastore, 1) := by decide +kernel
theorem dX11_makes_52 : decode cX11_makes 52 = .ok (.aload_n 0, 1) := by decide +kernel
theorem dX11_makes_53 : decode cX11_makes 53 = .ok (.getfield 9, 3) := by decide +kernel
theorem dX11_makes_56 : decode cX11_makes 56 = .ok (.sipush 186, 3) := by decide +kernel
theorem dX11_makes_59 : decode cX11_makes 59 = .ok (.iload 6, 2) := by decide +kernel
theorem dX11_makes_61 : decode cX11_makes 61 = .ok (.iadd, 1) := by decide +kernel
theorem dX11_makes_62 : decode cX11_makes 62 = .ok (.iload_n 1, 1) := by decide +kernel
theorem dX11_makes_63 : decode cX11_makes 63 = .ok (.ifCond .ne 7, 3) := by decide +kernel
theorem dX11_makes_66 : decode cX11_makes 66 = .ok (.iconst 0, 1) := by decide +kernel
theorem dX11_makes_67 : decode cX11_makes 67 = .ok (.goto 42, 3) := by decide +kernel
theorem dX11_makes_70 : decode cX11_makes 70 = .ok (.aload_n 0, 1) := by decide +kernel
theorem dX11_makes_71 : decode cX11_makes 71 = .ok (.getfield 9, 3) := by decide +kernel
theorem dX11_makes_74 : decode cX11_makes 74 = .ok (.sipush 186, 3) := by decide +kernel
theorem dX11_makes_77 : decode cX11_makes 77 = .ok (.iload_n 2, 1) := by decide +kernel
theorem dX11_makes_78 : decode cX11_makes 78 = .ok (.iadd, 1) := by decide +kernel
theorem dX11_makes_79 : decode cX11_makes 79 = .ok (.iaload, 1) := by decide +kernel
theorem dX11_makes_80 : decode cX11_makes 80 = .ok (.iload_n 1, 1) := by decide +kernel
theorem dX11_makes_81 : decode cX11_makes 81 = .ok (.iconst 1, 1) := by decide +kernel
theorem dX11_makes_82 : decode cX11_makes 82 = .ok (.if_icmp .ne 7, 3) := by decide +kernel
theorem dX11_makes_85 : decode cX11_makes 85 = .ok (.iconst 1, 1) := by decide +kernel
theorem dX11_makes_86 : decode cX11_makes 86 = .ok (.goto 22, 3) := by decide +kernel
theorem dX11_makes_89 : decode cX11_makes 89 = .ok (.iload_n 1, 1) := by decide +kernel
theorem dX11_makes_90 : decode cX11_makes 90 = .ok (.iconst 3, 1) := by decide +kernel
theorem dX11_makes_91 : decode cX11_makes 91 = .ok (.if_icmp .ne 7, 3) := by decide +kernel
theorem dX11_makes_94 : decode cX11_makes 94 = .ok (.iconst (-1), 1) := by decide +kernel
theorem dX11_makes_95 : decode cX11_makes 95 = .ok (.goto 13, 3) := by decide +kernel
theorem dX11_makes_98 : decode cX11_makes 98 = .ok (.aload_n 0, 1) := by decide +kernel
theorem dX11_makes_99 : decode cX11_makes 99 = .ok (.getfield 9, 3) := by decide +kernel
theorem dX11_makes_102 : decode cX11_makes 102 = .ok (.sipush 186, 3) := by decide +kernel
theorem dX11_makes_105 : decode cX11_makes 105 = .ok (.iload_n 3, 1) := by decide +kernel
theorem dX11_makes_106 : decode cX11_makes 106 = .ok (.iadd, 1) := by decide +kernel
theorem dX11_makes_107 : decode cX11_makes 107 = .ok (.iaload, 1) := by decide +kernel
theorem dX11_makes_108 : decode cX11_makes 108 = .ok (.iadd, 1) := by decide +kernel
theorem dX11_makes_109 : decode cX11_makes 109 = .ok (.iastore, 1) := by decide +kernel
theorem dX11_makes_110 : decode cX11_makes 110 = .ok (.iload_n 1, 1) := by decide +kernel
theorem dX11_makes_111 : decode cX11_makes 111 = .ok (.iconst 1, 1) := by decide +kernel
theorem dX11_makes_112 : decode cX11_makes 112 = .ok (.if_icmp .ne 62, 3) := by decide +kernel
theorem dX11_makes_115 : decode cX11_makes 115 = .ok (.aload_n 0, 1) := by decide +kernel
theorem dX11_makes_116 : decode cX11_makes 116 = .ok (.getfield 9, 3) := by decide +kernel
theorem dX11_makes_119 : decode cX11_makes 119 = .ok (.bipush 96, 2) := by decide +kernel
theorem dX11_makes_121 : decode cX11_makes 121 = .ok (.iload 6, 2) := by decide +kernel
theorem dX11_makes_123 : decode cX11_makes 123 = .ok (.iadd, 1) := by decide +kernel
theorem dX11_makes_124 : decode cX11_makes 124 = .ok (.aload_n 0, 1) := by decide +kernel
theorem dX11_makes_125 : decode cX11_makes 125 = .ok (.getfield 9, 3) := by decide +kernel
theorem dX11_makes_128 : decode cX11_makes 128 = .ok (.iconst 3, 1) := by decide +kernel
theorem dX11_makes_129 : decode cX11_makes 129 = .ok (.iaload, 1) := by decide +kernel
theorem dX11_makes_130 : decode cX11_makes 130 = .ok (.iastore, 1) := by decide +kernel
theorem dX11_makes_131 : decode cX11_makes 131 = .ok (.aload_n 0, 1) := by decide +kernel
theorem dX11_makes_132 : decode cX11_makes 132 = .ok (.getfield 9, 3) := by decide +kernel
theorem dX11_makes_135 : decode cX11_makes 135 = .ok (.bipush 126, 2) := by decide +kernel
theorem dX11_makes_137 : decode cX11_makes 137 = .ok (.aload_n 0, 1) := by decide +kernel
theorem dX11_makes_138 : decode cX11_makes 138 = .ok (.getfield 9, 3) := by decide +kernel
theorem dX11_makes_141 : decode cX11_makes 141 = .ok (.iconst 3, 1) := by decide +kernel
theorem dX11_makes_142 : decode cX11_makes 142 = .ok (.iaload, 1) := by decide +kernel
theorem dX11_makes_143 : decode cX11_makes 143 = .ok (.iadd, 1) := by decide +kernel
theorem dX11_makes_144 : decode cX11_makes 144 = .ok (.iload 4, 2) := by decide +kernel
theorem dX11_makes_146 : decode cX11_makes 146 = .ok (.iastore, 1) := by decide +kernel
theorem dX11_makes_147 : decode cX11_makes 147 = .ok (.aload_n 0, 1) := by decide +kernel
theorem dX11_makes_148 : decode cX11_makes 148 = .ok (.getfield 9, 3) := by decide +kernel
theorem dX11_makes_151 : decode cX11_makes 151 = .ok (.sipush 156, 3) := by decide +kernel
theorem dX11_makes_154 : decode cX11_makes 154 = .ok (.aload_n 0, 1) := by decide +kernel
theorem dX11_makes_155 : decode cX11_makes 155 = .ok (.getfield 9, 3) := by decide +kernel
theorem dX11_makes_158 : decode cX11_makes 158 = .ok (.iconst 3, 1) := by decide +kernel
theorem dX11_makes_159 : decode cX11_makes 159 = .ok (.iaload, 1) := by decide +kernel
theorem dX11_makes_160 : decode cX11_makes 160 = .ok (.iadd, 1) := by decide +kernel
theorem dX11_makes_161 : decode cX11_makes 161 = .ok (.iload 5, 2) := by decide +kernel
theorem dX11_makes_163 : decode cX11_makes 163 = .ok (.iastore, 1) := by decide +kernel
theorem dX11_makes_164 : decode cX11_makes 164 = .ok (.aload_n 0, 1) := by decide +kernel
theorem dX11_makes_165 : decode cX11_makes 165 = .ok (.getfield 9, 3) := by decide +kernel
theorem dX11_makes_168 : decode cX11_makes 168 = .ok (.iconst 3, 1) := by decide +kernel
theorem dX11_makes_169 : decode cX11_makes 169 = .ok (.dup2, 1) := by decide +kernel
theorem dX11_makes_170 : decode cX11_makes 170 = .ok (.iaload, 1) := by decide +kernel
theorem dX11_makes_171 : decode cX11_makes 171 = .ok (.iconst 1, 1) := by decide +kernel
theorem dX11_makes_172 : decode cX11_makes 172 = .ok (.iadd, 1) := by decide +kernel
theorem dX11_makes_173 : decode cX11_makes 173 = .ok (.iastore, 1) := by decide +kernel
theorem dX11_makes_174 : decode cX11_makes 174 = .ok (.aload_n 0, 1) := by decide +kernel
theorem dX11_makes_175 : decode cX11_makes 175 = .ok (.getfield 9, 3) := by decide +kernel
theorem dX11_makes_178 : decode cX11_makes 178 = .ok (.iconst 2, 1) := by decide +kernel
theorem dX11_makes_179 : decode cX11_makes 179 = .ok (.dup2, 1) := by decide +kernel
theorem dX11_makes_180 : decode cX11_makes 180 = .ok (.iaload, 1) := by decide +kernel
theorem dX11_makes_181 : decode cX11_makes 181 = .ok (.iconst 1, 1) := by decide +kernel
theorem dX11_makes_182 : decode cX11_makes 182 = .ok (.iadd, 1) := by decide +kernel
theorem dX11_makes_183 : decode cX11_makes 183 = .ok (.iastore, 1) := by decide +kernel
theorem dX11_makes_184 : decode cX11_makes 184 = .ok (.return_, 1) := by decide +kernel
theorem dX11_plan_0 : decode cX11_plan 0 = .ok (.iconst 0, 1) := by decide +kernel
theorem dX11_plan_1 : decode cX11_plan 1 = .ok (.istore_n 1, 1) := by decide +kernel
theorem dX11_plan_2 : decode cX11_plan 2 = .ok (.iload_n 1, 1) := by decide +kernel
theorem dX11_plan_3 : decode cX11_plan 3 = .ok (.sipush 216, 3) := by decide +kernel
theorem dX11_plan_6 : decode cX11_plan 6 = .ok (.if_icmp .ge 28, 3) := by decide +kernel
theorem dX11_plan_9 : decode cX11_plan 9 = .ok (.aload_n 0, 1) := by decide +kernel
theorem dX11_plan_10 : decode cX11_plan 10 = .ok (.getfield 13, 3) := by decide +kernel
theorem dX11_plan_13 : decode cX11_plan 13 = .ok (.iload_n 1, 1) := by decide +kernel
theorem dX11_plan_14 : decode cX11_plan 14 = .ok (.aload_n 0, 1) := by decide +kernel
theorem dX11_plan_15 : decode cX11_plan 15 = .ok (.getfield 9, 3) := by decide +kernel
theorem dX11_plan_18 : decode cX11_plan 18 = .ok (.iload_n 1, 1) := by decide +kernel
theorem dX11_plan_19 : decode cX11_plan 19 = .ok (.iaload, 1) := by decide +kernel
theorem dX11_plan_20 : decode cX11_plan 20 = .ok (.iastore, 1) := by decide +kernel
theorem dX11_plan_21 : decode cX11_plan 21 = .ok (.aload_n 0, 1) := by decide +kernel
theorem dX11_plan_22 : decode cX11_plan 22 = .ok (.getfield 9, 3) := by decide +kernel
theorem dX11_plan_25 : decode cX11_plan 25 = .ok (.iload_n 1, 1) := by decide +kernel
theorem dX11_plan_26 : decode cX11_plan 26 = .ok (.iconst 0, 1) := by decide +kernel
theorem dX11_plan_27 : decode cX11_plan 27 = .ok (.iastore, 1) := by decide +kernel
theorem dX11_plan_28 : decode cX11_plan 28 = .ok (.iinc 1 1, 3) := by decide +kernel
theorem dX11_plan_31 : decode cX11_plan 31 = .ok (.goto (-29), 3) := by decide +kernel
theorem dX11_plan_34 : decode cX11_plan 34 = .ok (.aload_n 0, 1) := by decide +kernel
theorem dX11_plan_35 : decode cX11_plan 35 = .ok (.iconst 0, 1) := by decide +kernel
theorem dX11_plan_36 : decode cX11_plan 36 = .ok (.putfield 82, 3) := by decide +kernel
theorem dX11_plan_39 : decode cX11_plan 39 = .ok (.aload_n 0, 1) := by decide +kernel
theorem dX11_plan_40 : decode cX11_plan 40 = .ok (.iconst 0, 1) := by decide +kernel
theorem dX11_plan_41 : decode cX11_plan 41 = .ok (.putfield 105, 3) := by decide +kernel
theorem dX11_plan_44 : decode cX11_plan 44 = .ok (.aload_n 0, 1) := by decide +kernel
theorem dX11_plan_45 : decode cX11_plan 45 = .ok (.invokevirtual 126, 3) := by decide +kernel
theorem dX11_plan_48 : decode cX11_plan 48 = .ok (.aload_n 0, 1) := by decide +kernel
theorem dX11_plan_49 : decode cX11_plan 49 = .ok (.getfield 105, 3) := by decide +kernel
theorem dX11_plan_52 : decode cX11_plan 52 = .ok (.ifCond .ne 67, 3) := by decide +kernel
theorem dX11_plan_55 : decode cX11_plan 55 = .ok (.aload_n 0, 1) := by decide +kernel
theorem dX11_plan_56 : decode cX11_plan 56 = .ok (.getfield 95, 3) := by decide +kernel
theorem dX11_plan_59 : decode cX11_plan 59 = .ok (.ifCond .eq 60, 3) := by decide +kernel
theorem dX11_plan_62 : decode cX11_plan 62 = .ok (.aload_n 0, 1) := by decide +kernel
theorem dX11_plan_63 : decode cX11_plan 63 = .ok (.getfield 9, 3) := by decide +kernel
theorem dX11_plan_66 : decode cX11_plan 66 = .ok (.iconst 5, 1) := by decide +kernel
theorem dX11_plan_67 : decode cX11_plan 67 = .ok (.iaload, 1) := by decide +kernel
theorem dX11_plan_68 : decode cX11_plan 68 = .ok (.ifCond .ne 10, 3) := by decide +kernel
theorem dX11_plan_71 : decode cX11_plan 71 = .ok (.aload_n 0, 1) := by decide +kernel
theorem dX11_plan_72 : decode cX11_plan 72 = .ok (.invokevirtual 166, 3) := by decide +kernel
theorem dX11_plan_75 : decode cX11_plan 75 = .ok (.goto 7, 3) := by decide +kernel
theorem dX11_plan_78 : decode cX11_plan 78 = .ok (.aload_n 0, 1) := by decide +kernel
theorem dX11_plan_79 : decode cX11_plan 79 = .ok (.invokevirtual 169, 3) := by decide +kernel
theorem dX11_plan_82 : decode cX11_plan 82 = .ok (.aload_n 0, 1) := by decide +kernel
theorem dX11_plan_83 : decode cX11_plan 83 = .ok (.aload_n 0, 1) := by decide +kernel
theorem dX11_plan_84 : decode cX11_plan 84 = .ok (.getfield 105, 3) := by decide +kernel
theorem dX11_plan_87 : decode cX11_plan 87 = .ok (.ifCond .ne 11, 3) := by decide +kernel
theorem dX11_plan_90 : decode cX11_plan 90 = .ok (.aload_n 0, 1) := by decide +kernel
theorem dX11_plan_91 : decode cX11_plan 91 = .ok (.getfield 95, 3) := by decide +kernel
theorem dX11_plan_94 : decode cX11_plan 94 = .ok (.iconst 3, 1) := by decide +kernel
theorem dX11_plan_95 : decode cX11_plan 95 = .ok (.if_icmp .ne 7, 3) := by decide +kernel
theorem dX11_plan_98 : decode cX11_plan 98 = .ok (.iconst 1, 1) := by decide +kernel
theorem dX11_plan_99 : decode cX11_plan 99 = .ok (.goto 4, 3) := by decide +kernel
theorem dX11_plan_102 : decode cX11_plan 102 = .ok (.iconst 0, 1) := by decide +kernel
theorem dX11_plan_103 : decode cX11_plan 103 = .ok (.invokevirtual 129, 3) := by decide +kernel
theorem dX11_plan_106 : decode cX11_plan 106 = .ok (.aload_n 0, 1) := by decide +kernel
theorem dX11_plan_107 : decode cX11_plan 107 = .ok (.getfield 9, 3) := by decide +kernel
theorem dX11_plan_110 : decode cX11_plan 110 = .ok (.iconst 5, 1) := by decide +kernel
theorem dX11_plan_111 : decode cX11_plan 111 = .ok (.dup2, 1) := by decide +kernel
theorem dX11_plan_112 : decode cX11_plan 112 = .ok (.iaload, 1) := by decide +kernel
theorem dX11_plan_113 : decode cX11_plan 113 = .ok (.iconst 1, 1) := by decide +kernel
theorem dX11_plan_114 : decode cX11_plan 114 = .ok (.iadd, 1) := by decide +kernel
theorem dX11_plan_115 : decode cX11_plan 115 = .ok (.iastore, 1) := by decide +kernel
theorem dX11_plan_116 : decode cX11_plan 116 = .ok (.goto (-68), 3) := by decide +kernel
theorem dX11_plan_119 : decode cX11_plan 119 = .ok (.aload_n 0, 1) := by decide +kernel
theorem dX11_plan_120 : decode cX11_plan 120 = .ok (.iconst 0, 1) := by decide +kernel
theorem dX11_plan_121 : decode cX11_plan 121 = .ok (.putfield 75, 3) := by decide +kernel
theorem dX11_plan_124 : decode cX11_plan 124 = .ok (.aload_n 0, 1) := by decide +kernel
theorem dX11_plan_125 : decode cX11_plan 125 = .ok (.getfield 105, 3) := by decide +kernel
theorem dX11_plan_128 : decode cX11_plan 128 = .ok (.ifCond .eq 33, 3) := by decide +kernel
theorem dX11_plan_131 : decode cX11_plan 131 = .ok (.iconst 0, 1) := by decide +kernel
theorem dX11_plan_132 : decode cX11_plan 132 = .ok (.istore_n 1, 1) := by decide +kernel
theorem dX11_plan_133 : decode cX11_plan 133 = .ok (.iload_n 1, 1) := by decide +kernel
theorem dX11_plan_134 : decode cX11_plan 134 = .ok (.sipush 216, 3) := by decide +kernel
theorem dX11_plan_137 : decode cX11_plan 137 = .ok (.if_icmp .ge 21, 3) := by decide +kernel
theorem dX11_plan_140 : decode cX11_plan 140 = .ok (.aload_n 0, 1) := by decide +kernel
theorem dX11_plan_141 : decode cX11_plan 141 = .ok (.getfield 9, 3) := by decide +kernel
theorem dX11_plan_144 : decode cX11_plan 144 = .ok (.iload_n 1, 1) := by decide +kernel
theorem dX11_plan_145 : decode cX11_plan 145 = .ok (.aload_n 0, 1) := by decide +kernel
theorem dX11_plan_146 : decode cX11_plan 146 = .ok (.getfield 13, 3) := by decide +kernel
theorem dX11_plan_149 : decode cX11_plan 149 = .ok (.iload_n 1, 1) := by decide +kernel
theorem dX11_plan_150 : decode cX11_plan 150 = .ok (.iaload, 1) := by decide +kernel
theorem dX11_plan_151 : decode cX11_plan 151 = .ok (.iastore, 1) := by decide +kernel
theorem dX11_plan_152 : decode cX11_plan 152 = .ok (.iinc 1 1, 3) := by decide +kernel
theorem dX11_plan_155 : decode cX11_plan 155 = .ok (.goto (-22), 3) := by decide +kernel
theorem dX11_plan_158 : decode cX11_plan 158 = .ok (.bipush (-4), 2) := by decide +kernel
theorem dX11_plan_160 : decode cX11_plan 160 = .ok (.ireturn, 1) := by decide +kernel
theorem dX11_plan_161 : decode cX11_plan 161 = .ok (.aload_n 0, 1) := by decide +kernel
theorem dX11_plan_162 : decode cX11_plan 162 = .ok (.iconst 0, 1) := by decide +kernel
theorem dX11_plan_163 : decode cX11_plan 163 = .ok (.putfield 109, 3) := by decide +kernel
theorem dX11_plan_166 : decode cX11_plan 166 = .ok (.aload_n 0, 1) := by decide +kernel
theorem dX11_plan_167 : decode cX11_plan 167 = .ok (.iconst (-1), 1) := by decide +kernel
theorem dX11_plan_168 : decode cX11_plan 168 = .ok (.putfield 19, 3) := by decide +kernel
theorem dX11_plan_171 : decode cX11_plan 171 = .ok (.aload_n 0, 1) := by decide +kernel
theorem dX11_plan_172 : decode cX11_plan 172 = .ok (.getfield 9, 3) := by decide +kernel
theorem dX11_plan_175 : decode cX11_plan 175 = .ok (.iconst 4, 1) := by decide +kernel
theorem dX11_plan_176 : decode cX11_plan 176 = .ok (.aload_n 0, 1) := by decide +kernel
theorem dX11_plan_177 : decode cX11_plan 177 = .ok (.getfield 9, 3) := by decide +kernel
theorem dX11_plan_180 : decode cX11_plan 180 = .ok (.iconst 2, 1) := by decide +kernel
theorem dX11_plan_181 : decode cX11_plan 181 = .ok (.iaload, 1) := by decide +kernel
theorem dX11_plan_182 : decode cX11_plan 182 = .ok (.iastore, 1) := by decide +kernel
theorem dX11_plan_183 : decode cX11_plan 183 = .ok (.aload_n 0, 1) := by decide +kernel
theorem dX11_plan_184 : decode cX11_plan 184 = .ok (.getfield 9, 3) := by decide +kernel
theorem dX11_plan_187 : decode cX11_plan 187 = .ok (.iconst 5, 1) := by decide +kernel
theorem dX11_plan_188 : decode cX11_plan 188 = .ok (.iaload, 1) := by decide +kernel
theorem dX11_plan_189 : decode cX11_plan 189 = .ok (.ireturn, 1) := by decide +kernel
theorem dX11_fault_0 : decode cX11_fault 0 = .ok (.iload_n 1, 1) := by decide +kernel
theorem dX11_fault_1 : decode cX11_fault 1 = .ok (.ifCond .ne 10, 3) := by decide +kernel
theorem dX11_fault_4 : decode cX11_fault 4 = .ok (.aload_n 0, 1) := by decide +kernel
theorem dX11_fault_5 : decode cX11_fault 5 = .ok (.getfield 109, 3) := by decide +kernel
theorem dX11_fault_8 : decode cX11_fault 8 = .ok (.goto 16, 3) := by decide +kernel
theorem dX11_fault_11 : decode cX11_fault 11 = .ok (.iload_n 1, 1) := by decide +kernel
theorem dX11_fault_12 : decode cX11_fault 12 = .ok (.iconst 1, 1) := by decide +kernel
theorem dX11_fault_13 : decode cX11_fault 13 = .ok (.if_icmp .ne 10, 3) := by decide +kernel
theorem dX11_fault_16 : decode cX11_fault 16 = .ok (.aload_n 0, 1) := by decide +kernel
theorem dX11_fault_17 : decode cX11_fault 17 = .ok (.getfield 19, 3) := by decide +kernel
theorem dX11_fault_20 : decode cX11_fault 20 = .ok (.goto 4, 3) := by decide +kernel
theorem dX11_fault_23 : decode cX11_fault 23 = .ok (.iconst (-1), 1) := by decide +kernel
theorem dX11_fault_24 : decode cX11_fault 24 = .ok (.ireturn, 1) := by decide +kernel
theorem dX11_count_0 : decode cX11_count 0 = .ok (.iload_n 1, 1) := by decide +kernel
theorem dX11_count_1 : decode cX11_count 1 = .ok (.tableswitch 108 0 7 #[47, 54, 61, 68, 75, 82, 96, 103], 47) := by decide +kernel
theorem dX11_count_48 : decode cX11_count 48 = .ok (.aload_n 0, 1) := by decide +kernel
theorem dX11_count_49 : decode cX11_count 49 = .ok (.getfield 9, 3) := by decide +kernel
theorem dX11_count_52 : decode cX11_count 52 = .ok (.iconst 0, 1) := by decide +kernel
theorem dX11_count_53 : decode cX11_count 53 = .ok (.iaload, 1) := by decide +kernel
theorem dX11_count_54 : decode cX11_count 54 = .ok (.ireturn, 1) := by decide +kernel
theorem dX11_count_55 : decode cX11_count 55 = .ok (.aload_n 0, 1) := by decide +kernel
theorem dX11_count_56 : decode cX11_count 56 = .ok (.getfield 9, 3) := by decide +kernel
theorem dX11_count_59 : decode cX11_count 59 = .ok (.iconst 1, 1) := by decide +kernel
theorem dX11_count_60 : decode cX11_count 60 = .ok (.iaload, 1) := by decide +kernel
theorem dX11_count_61 : decode cX11_count 61 = .ok (.ireturn, 1) := by decide +kernel
theorem dX11_count_62 : decode cX11_count 62 = .ok (.aload_n 0, 1) := by decide +kernel
theorem dX11_count_63 : decode cX11_count 63 = .ok (.getfield 9, 3) := by decide +kernel
theorem dX11_count_66 : decode cX11_count 66 = .ok (.iconst 2, 1) := by decide +kernel
theorem dX11_count_67 : decode cX11_count 67 = .ok (.iaload, 1) := by decide +kernel
theorem dX11_count_68 : decode cX11_count 68 = .ok (.ireturn, 1) := by decide +kernel
theorem dX11_count_69 : decode cX11_count 69 = .ok (.aload_n 0, 1) := by decide +kernel
theorem dX11_count_70 : decode cX11_count 70 = .ok (.getfield 9, 3) := by decide +kernel
theorem dX11_count_73 : decode cX11_count 73 = .ok (.iconst 3, 1) := by decide +kernel
theorem dX11_count_74 : decode cX11_count 74 = .ok (.iaload, 1) := by decide +kernel
theorem dX11_count_75 : decode cX11_count 75 = .ok (.ireturn, 1) := by decide +kernel
theorem dX11_count_76 : decode cX11_count 76 = .ok (.aload_n 0, 1) := by decide +kernel
theorem dX11_count_77 : decode cX11_count 77 = .ok (.getfield 9, 3) := by decide +kernel
theorem dX11_count_80 : decode cX11_count 80 = .ok (.iconst 4, 1) := by decide +kernel
theorem dX11_count_81 : decode cX11_count 81 = .ok (.iaload, 1) := by decide +kernel
theorem dX11_count_82 : decode cX11_count 82 = .ok (.ireturn, 1) := by decide +kernel
theorem dX11_count_83 : decode cX11_count 83 = .ok (.aload_n 0, 1) := by decide +kernel
theorem dX11_count_84 : decode cX11_count 84 = .ok (.getfield 9, 3) := by decide +kernel
theorem dX11_count_87 : decode cX11_count 87 = .ok (.iconst 2, 1) := by decide +kernel
theorem dX11_count_88 : decode cX11_count 88 = .ok (.iaload, 1) := by decide +kernel
theorem dX11_count_89 : decode cX11_count 89 = .ok (.aload_n 0, 1) := by decide +kernel
theorem dX11_count_90 : decode cX11_count 90 = .ok (.getfield 9, 3) := by decide +kernel
theorem dX11_count_93 : decode cX11_count 93 = .ok (.iconst 4, 1) := by decide +kernel
theorem dX11_count_94 : decode cX11_count 94 = .ok (.iaload, 1) := by decide +kernel
theorem dX11_count_95 : decode cX11_count 95 = .ok (.isub, 1) := by decide +kernel
theorem dX11_count_96 : decode cX11_count 96 = .ok (.ireturn, 1) := by decide +kernel
theorem dX11_count_97 : decode cX11_count 97 = .ok (.aload_n 0, 1) := by decide +kernel
theorem dX11_count_98 : decode cX11_count 98 = .ok (.getfield 9, 3) := by decide +kernel
theorem dX11_count_101 : decode cX11_count 101 = .ok (.iconst 5, 1) := by decide +kernel
theorem dX11_count_102 : decode cX11_count 102 = .ok (.iaload, 1) := by decide +kernel
theorem dX11_count_103 : decode cX11_count 103 = .ok (.ireturn, 1) := by decide +kernel
theorem dX11_count_104 : decode cX11_count 104 = .ok (.aload_n 0, 1) := by decide +kernel
theorem dX11_count_105 : decode cX11_count 105 = .ok (.getfield 75, 3) := by decide +kernel
theorem dX11_count_108 : decode cX11_count 108 = .ok (.ireturn, 1) := by decide +kernel
theorem dX11_count_109 : decode cX11_count 109 = .ok (.iconst (-1), 1) := by decide +kernel
theorem dX11_count_110 : decode cX11_count 110 = .ok (.ireturn, 1) := by decide +kernel
theorem dX11_isVersion_0 : decode cX11_isVersion 0 = .ok (.iload_n 1, 1) := by decide +kernel
theorem dX11_isVersion_1 : decode cX11_isVersion 1 = .ok (.i2l, 1) := by decide +kernel
theorem dX11_isVersion_2 : decode cX11_isVersion 2 = .ok (.lconst 0, 1) := by decide +kernel
theorem dX11_isVersion_3 : decode cX11_isVersion 3 = .ok (.aload_n 0, 1) := by decide +kernel
theorem dX11_isVersion_4 : decode cX11_isVersion 4 = .ok (.getfield 9, 3) := by decide +kernel
theorem dX11_isVersion_7 : decode cX11_isVersion 7 = .ok (.iconst 2, 1) := by decide +kernel
theorem dX11_isVersion_8 : decode cX11_isVersion 8 = .ok (.iaload, 1) := by decide +kernel
theorem dX11_isVersion_9 : decode cX11_isVersion 9 = .ok (.iconst 1, 1) := by decide +kernel
theorem dX11_isVersion_10 : decode cX11_isVersion 10 = .ok (.isub, 1) := by decide +kernel
theorem dX11_isVersion_11 : decode cX11_isVersion 11 = .ok (.i2l, 1) := by decide +kernel
theorem dX11_isVersion_12 : decode cX11_isVersion 12 = .ok (.invokestatic 78, 3) := by decide +kernel
theorem dX11_isVersion_15 : decode cX11_isVersion 15 = .ok (.ireturn, 1) := by decide +kernel
theorem dX11_isJob_0 : decode cX11_isJob 0 = .ok (.iload_n 1, 1) := by decide +kernel
theorem dX11_isJob_1 : decode cX11_isJob 1 = .ok (.i2l, 1) := by decide +kernel
theorem dX11_isJob_2 : decode cX11_isJob 2 = .ok (.lconst 0, 1) := by decide +kernel
theorem dX11_isJob_3 : decode cX11_isJob 3 = .ok (.aload_n 0, 1) := by decide +kernel
theorem dX11_isJob_4 : decode cX11_isJob 4 = .ok (.getfield 9, 3) := by decide +kernel
theorem dX11_isJob_7 : decode cX11_isJob 7 = .ok (.iconst 3, 1) := by decide +kernel
theorem dX11_isJob_8 : decode cX11_isJob 8 = .ok (.iaload, 1) := by decide +kernel
theorem dX11_isJob_9 : decode cX11_isJob 9 = .ok (.iconst 1, 1) := by decide +kernel
theorem dX11_isJob_10 : decode cX11_isJob 10 = .ok (.isub, 1) := by decide +kernel
theorem dX11_isJob_11 : decode cX11_isJob 11 = .ok (.i2l, 1) := by decide +kernel
theorem dX11_isJob_12 : decode cX11_isJob 12 = .ok (.invokestatic 78, 3) := by decide +kernel
theorem dX11_isJob_15 : decode cX11_isJob 15 = .ok (.ireturn, 1) := by decide +kernel
theorem dX11_version_0 : decode cX11_version 0 = .ok (.aload_n 0, 1) := by decide +kernel
theorem dX11_version_1 : decode cX11_version 1 = .ok (.iload_n 1, 1) := by decide +kernel
theorem dX11_version_2 : decode cX11_version 2 = .ok (.invokevirtual 171, 3) := by decide +kernel
theorem dX11_version_5 : decode cX11_version 5 = .ok (.ifCond .ne 6, 3) := by decide +kernel
theorem dX11_version_8 : decode cX11_version 8 = .ok (.bipush (-2), 2) := by decide +kernel
theorem dX11_version_10 : decode cX11_version 10 = .ok (.ireturn, 1) := by decide +kernel
theorem dX11_version_11 : decode cX11_version 11 = .ok (.iload_n 2, 1) := by decide +kernel
theorem dX11_version_12 : decode cX11_version 12 = .ok (.tableswitch 68 0 3 #[32, 42, 52, 62], 32) := by decide +kernel
theorem dX11_version_44 : decode cX11_version 44 = .ok (.aload_n 0, 1) := by decide +kernel
theorem dX11_version_45 : decode cX11_version 45 = .ok (.getfield 9, 3) := by decide +kernel
theorem dX11_version_48 : decode cX11_version 48 = .ok (.bipush 6, 2) := by decide +kernel
theorem dX11_version_50 : decode cX11_version 50 = .ok (.iload_n 1, 1) := by decide +kernel
theorem dX11_version_51 : decode cX11_version 51 = .ok (.iadd, 1) := by decide +kernel
theorem dX11_version_52 : decode cX11_version 52 = .ok (.iaload, 1) := by decide +kernel
theorem dX11_version_53 : decode cX11_version 53 = .ok (.ireturn, 1) := by decide +kernel
theorem dX11_version_54 : decode cX11_version 54 = .ok (.aload_n 0, 1) := by decide +kernel
theorem dX11_version_55 : decode cX11_version 55 = .ok (.getfield 9, 3) := by decide +kernel
theorem dX11_version_58 : decode cX11_version 58 = .ok (.bipush 36, 2) := by decide +kernel
theorem dX11_version_60 : decode cX11_version 60 = .ok (.iload_n 1, 1) := by decide +kernel
theorem dX11_version_61 : decode cX11_version 61 = .ok (.iadd, 1) := by decide +kernel
theorem dX11_version_62 : decode cX11_version 62 = .ok (.iaload, 1) := by decide +kernel
theorem dX11_version_63 : decode cX11_version 63 = .ok (.ireturn, 1) := by decide +kernel
theorem dX11_version_64 : decode cX11_version 64 = .ok (.aload_n 0, 1) := by decide +kernel
theorem dX11_version_65 : decode cX11_version 65 = .ok (.getfield 9, 3) := by decide +kernel
theorem dX11_version_68 : decode cX11_version 68 = .ok (.bipush 66, 2) := by decide +kernel
theorem dX11_version_70 : decode cX11_version 70 = .ok (.iload_n 1, 1) := by decide +kernel
theorem dX11_version_71 : decode cX11_version 71 = .ok (.iadd, 1) := by decide +kernel
theorem dX11_version_72 : decode cX11_version 72 = .ok (.iaload, 1) := by decide +kernel
theorem dX11_version_73 : decode cX11_version 73 = .ok (.ireturn, 1) := by decide +kernel
theorem dX11_version_74 : decode cX11_version 74 = .ok (.aload_n 0, 1) := by decide +kernel
theorem dX11_version_75 : decode cX11_version 75 = .ok (.iload_n 1, 1) := by decide +kernel
theorem dX11_version_76 : decode cX11_version 76 = .ok (.invokevirtual 175, 3) := by decide +kernel
theorem dX11_version_79 : decode cX11_version 79 = .ok (.ireturn, 1) := by decide +kernel
theorem dX11_version_80 : decode cX11_version 80 = .ok (.bipush (-2), 2) := by decide +kernel
theorem dX11_version_82 : decode cX11_version 82 = .ok (.ireturn, 1) := by decide +kernel
theorem dX11_jobOf_0 : decode cX11_jobOf 0 = .ok (.aload_n 0, 1) := by decide +kernel
theorem dX11_jobOf_1 : decode cX11_jobOf 1 = .ok (.getfield 9, 3) := by decide +kernel
theorem dX11_jobOf_4 : decode cX11_jobOf 4 = .ok (.bipush 6, 2) := by decide +kernel
theorem dX11_jobOf_6 : decode cX11_jobOf 6 = .ok (.iload_n 1, 1) := by decide +kernel
theorem dX11_jobOf_7 : decode cX11_jobOf 7 = .ok (.iadd, 1) := by decide +kernel
theorem dX11_jobOf_8 : decode cX11_jobOf 8 = .ok (.iaload, 1) := by decide +kernel
theorem dX11_jobOf_9 : decode cX11_jobOf 9 = .ok (.iconst 3, 1) := by decide +kernel
theorem dX11_jobOf_10 : decode cX11_jobOf 10 = .ok (.if_icmp .eq 13, 3) := by decide +kernel
theorem dX11_jobOf_13 : decode cX11_jobOf 13 = .ok (.aload_n 0, 1) := by decide +kernel
theorem dX11_jobOf_14 : decode cX11_jobOf 14 = .ok (.getfield 9, 3) := by decide +kernel
theorem dX11_jobOf_17 : decode cX11_jobOf 17 = .ok (.bipush 96, 2) := by decide +kernel
theorem dX11_jobOf_19 : decode cX11_jobOf 19 = .ok (.iload_n 1, 1) := by decide +kernel
theorem dX11_jobOf_20 : decode cX11_jobOf 20 = .ok (.iadd, 1) := by decide +kernel
theorem dX11_jobOf_21 : decode cX11_jobOf 21 = .ok (.iaload, 1) := by decide +kernel
theorem dX11_jobOf_22 : decode cX11_jobOf 22 = .ok (.ireturn, 1) := by decide +kernel
theorem dX11_jobOf_23 : decode cX11_jobOf 23 = .ok (.aload_n 0, 1) := by decide +kernel
theorem dX11_jobOf_24 : decode cX11_jobOf 24 = .ok (.aload_n 0, 1) := by decide +kernel
theorem dX11_jobOf_25 : decode cX11_jobOf 25 = .ok (.getfield 9, 3) := by decide +kernel
theorem dX11_jobOf_28 : decode cX11_jobOf 28 = .ok (.iconst 0, 1) := by decide +kernel
theorem dX11_jobOf_29 : decode cX11_jobOf 29 = .ok (.iaload, 1) := by decide +kernel
theorem dX11_jobOf_30 : decode cX11_jobOf 30 = .ok (.iconst (-1), 1) := by decide +kernel
theorem dX11_jobOf_31 : decode cX11_jobOf 31 = .ok (.invokevirtual 179, 3) := by decide +kernel
theorem dX11_jobOf_34 : decode cX11_jobOf 34 = .ok (.aload_n 0, 1) := by decide +kernel
theorem dX11_jobOf_35 : decode cX11_jobOf 35 = .ok (.getfield 23, 3) := by decide +kernel
theorem dX11_jobOf_38 : decode cX11_jobOf 38 = .ok (.aload_n 0, 1) := by decide +kernel
theorem dX11_jobOf_39 : decode cX11_jobOf 39 = .ok (.getfield 48, 3) := by decide +kernel
theorem dX11_jobOf_42 : decode cX11_jobOf 42 = .ok (.aload_n 0, 1) := by decide +kernel
theorem dX11_jobOf_43 : decode cX11_jobOf 43 = .ok (.getfield 9, 3) := by decide +kernel
theorem dX11_jobOf_46 : decode cX11_jobOf 46 = .ok (.bipush 36, 2) := by decide +kernel
theorem dX11_jobOf_48 : decode cX11_jobOf 48 = .ok (.iload_n 1, 1) := by decide +kernel
theorem dX11_jobOf_49 : decode cX11_jobOf 49 = .ok (.iadd, 1) := by decide +kernel
theorem dX11_jobOf_50 : decode cX11_jobOf 50 = .ok (.iaload, 1) := by decide +kernel
theorem dX11_jobOf_51 : decode cX11_jobOf 51 = .ok (.iaload, 1) := by decide +kernel
theorem dX11_jobOf_52 : decode cX11_jobOf 52 = .ok (.iaload, 1) := by decide +kernel
theorem dX11_jobOf_53 : decode cX11_jobOf 53 = .ok (.ireturn, 1) := by decide +kernel
theorem dX11_job_0 : decode cX11_job 0 = .ok (.aload_n 0, 1) := by decide +kernel
theorem dX11_job_1 : decode cX11_job 1 = .ok (.iload_n 1, 1) := by decide +kernel
theorem dX11_job_2 : decode cX11_job 2 = .ok (.invokevirtual 183, 3) := by decide +kernel
theorem dX11_job_5 : decode cX11_job 5 = .ok (.ifCond .eq 35, 3) := by decide +kernel
theorem dX11_job_8 : decode cX11_job 8 = .ok (.iload_n 2, 1) := by decide +kernel
theorem dX11_job_9 : decode cX11_job 9 = .ok (.i2l, 1) := by decide +kernel
theorem dX11_job_10 : decode cX11_job 10 = .ok (.lconst 0, 1) := by decide +kernel
theorem dX11_job_11 : decode cX11_job 11 = .ok (.lconst 1, 1) := by decide +kernel
theorem dX11_job_12 : decode cX11_job 12 = .ok (.invokestatic 78, 3) := by decide +kernel
theorem dX11_job_15 : decode cX11_job 15 = .ok (.ifCond .eq 25, 3) := by decide +kernel
theorem dX11_job_18 : decode cX11_job 18 = .ok (.aload_n 0, 1) := by decide +kernel
theorem dX11_job_19 : decode cX11_job 19 = .ok (.getfield 9, 3) := by decide +kernel
theorem dX11_job_22 : decode cX11_job 22 = .ok (.iload_n 2, 1) := by decide +kernel
theorem dX11_job_23 : decode cX11_job 23 = .ok (.ifCond .ne 8, 3) := by decide +kernel
theorem dX11_job_26 : decode cX11_job 26 = .ok (.bipush 126, 2) := by decide +kernel
theorem dX11_job_28 : decode cX11_job 28 = .ok (.goto 6, 3) := by decide +kernel
theorem dX11_job_31 : decode cX11_job 31 = .ok (.sipush 156, 3) := by decide +kernel
theorem dX11_job_34 : decode cX11_job 34 = .ok (.iload_n 1, 1) := by decide +kernel
theorem dX11_job_35 : decode cX11_job 35 = .ok (.iadd, 1) := by decide +kernel
theorem dX11_job_36 : decode cX11_job 36 = .ok (.iaload, 1) := by decide +kernel
theorem dX11_job_37 : decode cX11_job 37 = .ok (.goto 5, 3) := by decide +kernel
theorem dX11_job_40 : decode cX11_job 40 = .ok (.bipush (-2), 2) := by decide +kernel
theorem dX11_job_42 : decode cX11_job 42 = .ok (.ireturn, 1) := by decide +kernel
theorem dX11_ahead_0 : decode cX11_ahead 0 = .ok (.aload_n 0, 1) := by decide +kernel
theorem dX11_ahead_1 : decode cX11_ahead 1 = .ok (.getfield 42, 3) := by decide +kernel
theorem dX11_ahead_4 : decode cX11_ahead 4 = .ok (.aload_n 0, 1) := by decide +kernel
theorem dX11_ahead_5 : decode cX11_ahead 5 = .ok (.getfield 186, 3) := by decide +kernel
theorem dX11_ahead_8 : decode cX11_ahead 8 = .ok (.iload_n 1, 1) := by decide +kernel
theorem dX11_ahead_9 : decode cX11_ahead 9 = .ok (.iastore, 1) := by decide +kernel
theorem dX11_ahead_10 : decode cX11_ahead 10 = .ok (.aload_n 0, 1) := by decide +kernel
theorem dX11_ahead_11 : decode cX11_ahead 11 = .ok (.getfield 45, 3) := by decide +kernel
theorem dX11_ahead_14 : decode cX11_ahead 14 = .ok (.aload_n 0, 1) := by decide +kernel
theorem dX11_ahead_15 : decode cX11_ahead 15 = .ok (.getfield 186, 3) := by decide +kernel
theorem dX11_ahead_18 : decode cX11_ahead 18 = .ok (.iload_n 2, 1) := by decide +kernel
theorem dX11_ahead_19 : decode cX11_ahead 19 = .ok (.iastore, 1) := by decide +kernel
theorem dX11_ahead_20 : decode cX11_ahead 20 = .ok (.aload_n 0, 1) := by decide +kernel
theorem dX11_ahead_21 : decode cX11_ahead 21 = .ok (.dup, 1) := by decide +kernel
theorem dX11_ahead_22 : decode cX11_ahead 22 = .ok (.getfield 186, 3) := by decide +kernel
theorem dX11_ahead_25 : decode cX11_ahead 25 = .ok (.iconst 1, 1) := by decide +kernel
theorem dX11_ahead_26 : decode cX11_ahead 26 = .ok (.iadd, 1) := by decide +kernel
theorem dX11_ahead_27 : decode cX11_ahead 27 = .ok (.putfield 186, 3) := by decide +kernel
theorem dX11_ahead_30 : decode cX11_ahead 30 = .ok (.aload_n 0, 1) := by decide +kernel
theorem dX11_ahead_31 : decode cX11_ahead 31 = .ok (.getfield 186, 3) := by decide +kernel
theorem dX11_ahead_34 : decode cX11_ahead 34 = .ok (.iconst 1, 1) := by decide +kernel
theorem dX11_ahead_35 : decode cX11_ahead 35 = .ok (.isub, 1) := by decide +kernel
theorem dX11_ahead_36 : decode cX11_ahead 36 = .ok (.ireturn, 1) := by decide +kernel
theorem dX11_longOf_0 : decode cX11_longOf 0 = .ok (.iconst 0, 1) := by decide +kernel
theorem dX11_longOf_1 : decode cX11_longOf 1 = .ok (.istore_n 2, 1) := by decide +kernel
theorem dX11_longOf_2 : decode cX11_longOf 2 = .ok (.iload_n 1, 1) := by decide +kernel
theorem dX11_longOf_3 : decode cX11_longOf 3 = .ok (.istore_n 3, 1) := by decide +kernel
theorem dX11_longOf_4 : decode cX11_longOf 4 = .ok (.iload_n 3, 1) := by decide +kernel
theorem dX11_longOf_5 : decode cX11_longOf 5 = .ok (.ifCond .lt 16, 3) := by decide +kernel
theorem dX11_longOf_8 : decode cX11_longOf 8 = .ok (.iinc 2 1, 3) := by decide +kernel
theorem dX11_longOf_11 : decode cX11_longOf 11 = .ok (.aload_n 0, 1) := by decide +kernel
theorem dX11_longOf_12 : decode cX11_longOf 12 = .ok (.getfield 45, 3) := by decide +kernel
theorem dX11_longOf_15 : decode cX11_longOf 15 = .ok (.iload_n 3, 1) := by decide +kernel
theorem dX11_longOf_16 : decode cX11_longOf 16 = .ok (.iaload, 1) := by decide +kernel
theorem dX11_longOf_17 : decode cX11_longOf 17 = .ok (.istore_n 3, 1) := by decide +kernel
theorem dX11_longOf_18 : decode cX11_longOf 18 = .ok (.goto (-14), 3) := by decide +kernel
theorem dX11_longOf_21 : decode cX11_longOf 21 = .ok (.iload_n 2, 1) := by decide +kernel
theorem dX11_longOf_22 : decode cX11_longOf 22 = .ok (.ireturn, 1) := by decide +kernel
theorem dX11_thingOf_0 : decode cX11_thingOf 0 = .ok (.iload_n 1, 1) := by decide +kernel
theorem dX11_thingOf_1 : decode cX11_thingOf 1 = .ok (.istore_n 3, 1) := by decide +kernel
theorem dX11_thingOf_2 : decode cX11_thingOf 2 = .ok (.iconst 0, 1) := by decide +kernel
theorem dX11_thingOf_3 : decode cX11_thingOf 3 = .ok (.istore 4, 2) := by decide +kernel
theorem dX11_thingOf_5 : decode cX11_thingOf 5 = .ok (.iload 4, 2) := by decide +kernel
theorem dX11_thingOf_7 : decode cX11_thingOf 7 = .ok (.iload_n 2, 1) := by decide +kernel
theorem dX11_thingOf_8 : decode cX11_thingOf 8 = .ok (.if_icmp .ge 16, 3) := by decide +kernel
theorem dX11_thingOf_11 : decode cX11_thingOf 11 = .ok (.aload_n 0, 1) := by decide +kernel
theorem dX11_thingOf_12 : decode cX11_thingOf 12 = .ok (.getfield 45, 3) := by decide +kernel
theorem dX11_thingOf_15 : decode cX11_thingOf 15 = .ok (.iload_n 3, 1) := by decide +kernel
theorem dX11_thingOf_16 : decode cX11_thingOf 16 = .ok (.iaload, 1) := by decide +kernel
theorem dX11_thingOf_17 : decode cX11_thingOf 17 = .ok (.istore_n 3, 1) := by decide +kernel
theorem dX11_thingOf_18 : decode cX11_thingOf 18 = .ok (.iinc 4 1, 3) := by decide +kernel
theorem dX11_thingOf_21 : decode cX11_thingOf 21 = .ok (.goto (-16), 3) := by decide +kernel
theorem dX11_thingOf_24 : decode cX11_thingOf 24 = .ok (.aload_n 0, 1) := by decide +kernel
theorem dX11_thingOf_25 : decode cX11_thingOf 25 = .ok (.getfield 42, 3) := by decide +kernel
theorem dX11_thingOf_28 : decode cX11_thingOf 28 = .ok (.iload_n 3, 1) := by decide +kernel
theorem dX11_thingOf_29 : decode cX11_thingOf 29 = .ok (.iaload, 1) := by decide +kernel
theorem dX11_thingOf_30 : decode cX11_thingOf 30 = .ok (.ireturn, 1) := by decide +kernel
theorem dX11_heap_0 : decode cX11_heap 0 = .ok (.aload_n 0, 1) := by decide +kernel
theorem dX11_heap_1 : decode cX11_heap 1 = .ok (.getfield 23, 3) := by decide +kernel
theorem dX11_heap_4 : decode cX11_heap 4 = .ok (.aload_n 0, 1) := by decide +kernel
theorem dX11_heap_5 : decode cX11_heap 5 = .ok (.getfield 189, 3) := by decide +kernel
theorem dX11_heap_8 : decode cX11_heap 8 = .ok (.iload_n 1, 1) := by decide +kernel
theorem dX11_heap_9 : decode cX11_heap 9 = .ok (.iastore, 1) := by decide +kernel
theorem dX11_heap_10 : decode cX11_heap 10 = .ok (.aload_n 0, 1) := by decide +kernel
theorem dX11_heap_11 : decode cX11_heap 11 = .ok (.getfield 26, 3) := by decide +kernel
theorem dX11_heap_14 : decode cX11_heap 14 = .ok (.aload_n 0, 1) := by decide +kernel
theorem dX11_heap_15 : decode cX11_heap 15 = .ok (.getfield 189, 3) := by decide +kernel
theorem dX11_heap_18 : decode cX11_heap 18 = .ok (.iload_n 2, 1) := by decide +kernel
theorem dX11_heap_19 : decode cX11_heap 19 = .ok (.iastore, 1) := by decide +kernel
theorem dX11_heap_20 : decode cX11_heap 20 = .ok (.aload_n 0, 1) := by decide +kernel
theorem dX11_heap_21 : decode cX11_heap 21 = .ok (.dup, 1) := by decide +kernel
theorem dX11_heap_22 : decode cX11_heap 22 = .ok (.getfield 189, 3) := by decide +kernel
theorem dX11_heap_25 : decode cX11_heap 25 = .ok (.iconst 1, 1) := by decide +kernel
theorem dX11_heap_26 : decode cX11_heap 26 = .ok (.iadd, 1) := by decide +kernel
theorem dX11_heap_27 : decode cX11_heap 27 = .ok (.putfield 189, 3) := by decide +kernel
theorem dX11_heap_30 : decode cX11_heap 30 = .ok (.aload_n 0, 1) := by decide +kernel
theorem dX11_heap_31 : decode cX11_heap 31 = .ok (.getfield 189, 3) := by decide +kernel
theorem dX11_heap_34 : decode cX11_heap 34 = .ok (.iconst 1, 1) := by decide +kernel
theorem dX11_heap_35 : decode cX11_heap 35 = .ok (.isub, 1) := by decide +kernel
theorem dX11_heap_36 : decode cX11_heap 36 = .ok (.ireturn, 1) := by decide +kernel
theorem dX11_tree_0 : decode cX11_tree 0 = .ok (.aload_n 0, 1) := by decide +kernel
theorem dX11_tree_1 : decode cX11_tree 1 = .ok (.getfield 29, 3) := by decide +kernel
theorem dX11_tree_4 : decode cX11_tree 4 = .ok (.aload_n 0, 1) := by decide +kernel
theorem dX11_tree_5 : decode cX11_tree 5 = .ok (.getfield 192, 3) := by decide +kernel
theorem dX11_tree_8 : decode cX11_tree 8 = .ok (.iload_n 1, 1) := by decide +kernel
theorem dX11_tree_9 : decode cX11_tree 9 = .ok (.iastore, 1) := by decide +kernel
theorem dX11_tree_10 : decode cX11_tree 10 = .ok (.aload_n 0, 1) := by decide +kernel
theorem dX11_tree_11 : decode cX11_tree 11 = .ok (.getfield 32, 3) := by decide +kernel
theorem dX11_tree_14 : decode cX11_tree 14 = .ok (.aload_n 0, 1) := by decide +kernel
theorem dX11_tree_15 : decode cX11_tree 15 = .ok (.getfield 192, 3) := by decide +kernel
theorem dX11_tree_18 : decode cX11_tree 18 = .ok (.iload_n 2, 1) := by decide +kernel
theorem dX11_tree_19 : decode cX11_tree 19 = .ok (.iastore, 1) := by decide +kernel
theorem dX11_tree_20 : decode cX11_tree 20 = .ok (.aload_n 0, 1) := by decide +kernel
theorem dX11_tree_21 : decode cX11_tree 21 = .ok (.getfield 35, 3) := by decide +kernel
theorem dX11_tree_24 : decode cX11_tree 24 = .ok (.aload_n 0, 1) := by decide +kernel
theorem dX11_tree_25 : decode cX11_tree 25 = .ok (.getfield 192, 3) := by decide +kernel
theorem dX11_tree_28 : decode cX11_tree 28 = .ok (.iload_n 3, 1) := by decide +kernel
theorem dX11_tree_29 : decode cX11_tree 29 = .ok (.iastore, 1) := by decide +kernel
theorem dX11_tree_30 : decode cX11_tree 30 = .ok (.aload_n 0, 1) := by decide +kernel
theorem dX11_tree_31 : decode cX11_tree 31 = .ok (.getfield 38, 3) := by decide +kernel
theorem dX11_tree_34 : decode cX11_tree 34 = .ok (.aload_n 0, 1) := by decide +kernel
theorem dX11_tree_35 : decode cX11_tree 35 = .ok (.getfield 192, 3) := by decide +kernel
theorem dX11_tree_38 : decode cX11_tree 38 = .ok (.iload 4, 2) := by decide +kernel
theorem dX11_tree_40 : decode cX11_tree 40 = .ok (.iastore, 1) := by decide +kernel
theorem dX11_tree_41 : decode cX11_tree 41 = .ok (.aload_n 0, 1) := by decide +kernel
theorem dX11_tree_42 : decode cX11_tree 42 = .ok (.dup, 1) := by decide +kernel
theorem dX11_tree_43 : decode cX11_tree 43 = .ok (.getfield 192, 3) := by decide +kernel
theorem dX11_tree_46 : decode cX11_tree 46 = .ok (.iconst 1, 1) := by decide +kernel
theorem dX11_tree_47 : decode cX11_tree 47 = .ok (.iadd, 1) := by decide +kernel
theorem dX11_tree_48 : decode cX11_tree 48 = .ok (.putfield 192, 3) := by decide +kernel
theorem dX11_tree_51 : decode cX11_tree 51 = .ok (.aload_n 0, 1) := by decide +kernel
theorem dX11_tree_52 : decode cX11_tree 52 = .ok (.getfield 192, 3) := by decide +kernel
theorem dX11_tree_55 : decode cX11_tree 55 = .ok (.iconst 1, 1) := by decide +kernel
theorem dX11_tree_56 : decode cX11_tree 56 = .ok (.isub, 1) := by decide +kernel
theorem dX11_tree_57 : decode cX11_tree 57 = .ok (.ireturn, 1) := by decide +kernel
theorem dX11_isJobLess_0 : decode cX11_isJobLess 0 = .ok (.aload_n 0, 1) := by decide +kernel
theorem dX11_isJobLess_1 : decode cX11_isJobLess 1 = .ok (.getfield 9, 3) := by decide +kernel
theorem dX11_isJobLess_4 : decode cX11_isJobLess 4 = .ok (.bipush 126, 2) := by decide +kernel
theorem dX11_isJobLess_6 : decode cX11_isJobLess 6 = .ok (.iload_n 1, 1) := by decide +kernel
theorem dX11_isJobLess_7 : decode cX11_isJobLess 7 = .ok (.iadd, 1) := by decide +kernel
theorem dX11_isJobLess_8 : decode cX11_isJobLess 8 = .ok (.iaload, 1) := by decide +kernel
theorem dX11_isJobLess_9 : decode cX11_isJobLess 9 = .ok (.aload_n 0, 1) := by decide +kernel
theorem dX11_isJobLess_10 : decode cX11_isJobLess 10 = .ok (.getfield 9, 3) := by decide +kernel
theorem dX11_isJobLess_13 : decode cX11_isJobLess 13 = .ok (.bipush 126, 2) := by decide +kernel
theorem dX11_isJobLess_15 : decode cX11_isJobLess 15 = .ok (.iload_n 2, 1) := by decide +kernel
theorem dX11_isJobLess_16 : decode cX11_isJobLess 16 = .ok (.iadd, 1) := by decide +kernel
theorem dX11_isJobLess_17 : decode cX11_isJobLess 17 = .ok (.iaload, 1) := by decide +kernel
theorem dX11_isJobLess_18 : decode cX11_isJobLess 18 = .ok (.if_icmp .lt 29, 3) := by decide +kernel
theorem dX11_isJobLess_21 : decode cX11_isJobLess 21 = .ok (.aload_n 0, 1) := by decide +kernel
theorem dX11_isJobLess_22 : decode cX11_isJobLess 22 = .ok (.getfield 9, 3) := by decide +kernel
theorem dX11_isJobLess_25 : decode cX11_isJobLess 25 = .ok (.bipush 126, 2) := by decide +kernel
theorem dX11_isJobLess_27 : decode cX11_isJobLess 27 = .ok (.iload_n 1, 1) := by decide +kernel
theorem dX11_isJobLess_28 : decode cX11_isJobLess 28 = .ok (.iadd, 1) := by decide +kernel
theorem dX11_isJobLess_29 : decode cX11_isJobLess 29 = .ok (.iaload, 1) := by decide +kernel
theorem dX11_isJobLess_30 : decode cX11_isJobLess 30 = .ok (.aload_n 0, 1) := by decide +kernel
theorem dX11_isJobLess_31 : decode cX11_isJobLess 31 = .ok (.getfield 9, 3) := by decide +kernel
theorem dX11_isJobLess_34 : decode cX11_isJobLess 34 = .ok (.bipush 126, 2) := by decide +kernel
theorem dX11_isJobLess_36 : decode cX11_isJobLess 36 = .ok (.iload_n 2, 1) := by decide +kernel
theorem dX11_isJobLess_37 : decode cX11_isJobLess 37 = .ok (.iadd, 1) := by decide +kernel
theorem dX11_isJobLess_38 : decode cX11_isJobLess 38 = .ok (.iaload, 1) := by decide +kernel
theorem dX11_isJobLess_39 : decode cX11_isJobLess 39 = .ok (.if_icmp .ne 12, 3) := by decide +kernel
theorem dX11_isJobLess_42 : decode cX11_isJobLess 42 = .ok (.iload_n 1, 1) := by decide +kernel
theorem dX11_isJobLess_43 : decode cX11_isJobLess 43 = .ok (.iload_n 2, 1) := by decide +kernel
theorem dX11_isJobLess_44 : decode cX11_isJobLess 44 = .ok (.if_icmp .ge 7, 3) := by decide +kernel
theorem dX11_isJobLess_47 : decode cX11_isJobLess 47 = .ok (.iconst 1, 1) := by decide +kernel
theorem dX11_isJobLess_48 : decode cX11_isJobLess 48 = .ok (.goto 4, 3) := by decide +kernel
theorem dX11_isJobLess_51 : decode cX11_isJobLess 51 = .ok (.iconst 0, 1) := by decide +kernel
theorem dX11_isJobLess_52 : decode cX11_isJobLess 52 = .ok (.ireturn, 1) := by decide +kernel
theorem dX11_isLess_0 : decode cX11_isLess 0 = .ok (.aload_n 0, 1) := by decide +kernel
theorem dX11_isLess_1 : decode cX11_isLess 1 = .ok (.aload_n 0, 1) := by decide +kernel
theorem dX11_isLess_2 : decode cX11_isLess 2 = .ok (.getfield 23, 3) := by decide +kernel
theorem dX11_isLess_5 : decode cX11_isLess 5 = .ok (.iload_n 1, 1) := by decide +kernel
theorem dX11_isLess_6 : decode cX11_isLess 6 = .ok (.iaload, 1) := by decide +kernel
theorem dX11_isLess_7 : decode cX11_isLess 7 = .ok (.aload_n 0, 1) := by decide +kernel
theorem dX11_isLess_8 : decode cX11_isLess 8 = .ok (.getfield 23, 3) := by decide +kernel
theorem dX11_isLess_11 : decode cX11_isLess 11 = .ok (.iload_n 2, 1) := by decide +kernel
theorem dX11_isLess_12 : decode cX11_isLess 12 = .ok (.iaload, 1) := by decide +kernel
theorem dX11_isLess_13 : decode cX11_isLess 13 = .ok (.invokevirtual 195, 3) := by decide +kernel
theorem dX11_isLess_16 : decode cX11_isLess 16 = .ok (.ireturn, 1) := by decide +kernel
theorem dX11_link_0 : decode cX11_link 0 = .ok (.aload_n 0, 1) := by decide +kernel
theorem dX11_link_1 : decode cX11_link 1 = .ok (.dup, 1) := by decide +kernel
theorem dX11_link_2 : decode cX11_link 2 = .ok (.getfield 198, 3) := by decide +kernel
theorem dX11_link_5 : decode cX11_link 5 = .ok (.iconst 1, 1) := by decide +kernel
theorem dX11_link_6 : decode cX11_link 6 = .ok (.iadd, 1) := by decide +kernel
theorem dX11_link_7 : decode cX11_link 7 = .ok (.putfield 198, 3) := by decide +kernel
theorem dX11_link_10 : decode cX11_link 10 = .ok (.aload_n 0, 1) := by decide +kernel
theorem dX11_link_11 : decode cX11_link 11 = .ok (.aload_n 0, 1) := by decide +kernel
theorem dX11_link_12 : decode cX11_link 12 = .ok (.getfield 32, 3) := by decide +kernel
theorem dX11_link_15 : decode cX11_link 15 = .ok (.iload_n 2, 1) := by decide +kernel
theorem dX11_link_16 : decode cX11_link 16 = .ok (.iaload, 1) := by decide +kernel
theorem dX11_link_17 : decode cX11_link 17 = .ok (.aload_n 0, 1) := by decide +kernel
theorem dX11_link_18 : decode cX11_link 18 = .ok (.getfield 32, 3) := by decide +kernel
theorem dX11_link_21 : decode cX11_link 21 = .ok (.iload_n 1, 1) := by decide +kernel
theorem dX11_link_22 : decode cX11_link 22 = .ok (.iaload, 1) := by decide +kernel
theorem dX11_link_23 : decode cX11_link 23 = .ok (.invokevirtual 201, 3) := by decide +kernel
theorem dX11_link_26 : decode cX11_link 26 = .ok (.istore_n 3, 1) := by decide +kernel
theorem dX11_link_27 : decode cX11_link 27 = .ok (.iload_n 3, 1) := by decide +kernel
theorem dX11_link_28 : decode cX11_link 28 = .ok (.ifCond .eq 7, 3) := by decide +kernel
theorem dX11_link_31 : decode cX11_link 31 = .ok (.iload_n 2, 1) := by decide +kernel
theorem dX11_link_32 : decode cX11_link 32 = .ok (.goto 4, 3) := by decide +kernel
theorem dX11_link_35 : decode cX11_link 35 = .ok (.iload_n 1, 1) := by decide +kernel
theorem dX11_link_36 : decode cX11_link 36 = .ok (.istore 4, 2) := by decide +kernel
theorem dX11_link_38 : decode cX11_link 38 = .ok (.aload_n 0, 1) := by decide +kernel
theorem dX11_link_39 : decode cX11_link 39 = .ok (.aload_n 0, 1) := by decide +kernel
theorem dX11_link_40 : decode cX11_link 40 = .ok (.getfield 29, 3) := by decide +kernel
theorem dX11_link_43 : decode cX11_link 43 = .ok (.iload_n 1, 1) := by decide +kernel
theorem dX11_link_44 : decode cX11_link 44 = .ok (.iaload, 1) := by decide +kernel
theorem dX11_link_45 : decode cX11_link 45 = .ok (.iconst 1, 1) := by decide +kernel
theorem dX11_link_46 : decode cX11_link 46 = .ok (.iadd, 1) := by decide +kernel
theorem dX11_link_47 : decode cX11_link 47 = .ok (.aload_n 0, 1) := by decide +kernel
theorem dX11_link_48 : decode cX11_link 48 = .ok (.getfield 32, 3) := by decide +kernel
theorem dX11_link_51 : decode cX11_link 51 = .ok (.iload 4, 2) := by decide +kernel
theorem dX11_link_53 : decode cX11_link 53 = .ok (.iaload, 1) := by decide +kernel
theorem dX11_link_54 : decode cX11_link 54 = .ok (.aload_n 0, 1) := by decide +kernel
theorem dX11_link_55 : decode cX11_link 55 = .ok (.getfield 35, 3) := by decide +kernel
theorem dX11_link_58 : decode cX11_link 58 = .ok (.iload 4, 2) := by decide +kernel
theorem dX11_link_60 : decode cX11_link 60 = .ok (.iaload, 1) := by decide +kernel
theorem dX11_link_61 : decode cX11_link 61 = .ok (.aload_n 0, 1) := by decide +kernel
theorem dX11_link_62 : decode cX11_link 62 = .ok (.iload_n 3, 1) := by decide +kernel
theorem dX11_link_63 : decode cX11_link 63 = .ok (.ifCond .eq 7, 3) := by decide +kernel
theorem dX11_link_66 : decode cX11_link 66 = .ok (.iload_n 1, 1) := by decide +kernel
theorem dX11_link_67 : decode cX11_link 67 = .ok (.goto 4, 3) := by decide +kernel
theorem dX11_link_70 : decode cX11_link 70 = .ok (.iload_n 2, 1) := by decide +kernel
theorem dX11_link_71 : decode cX11_link 71 = .ok (.aload_n 0, 1) := by decide +kernel
theorem dX11_link_72 : decode cX11_link 72 = .ok (.getfield 38, 3) := by decide +kernel
theorem dX11_link_75 : decode cX11_link 75 = .ok (.iload 4, 2) := by decide +kernel
theorem dX11_link_77 : decode cX11_link 77 = .ok (.iaload, 1) := by decide +kernel
theorem dX11_link_78 : decode cX11_link 78 = .ok (.invokevirtual 204, 3) := by decide +kernel
theorem dX11_link_81 : decode cX11_link 81 = .ok (.invokevirtual 207, 3) := by decide +kernel
theorem dX11_link_84 : decode cX11_link 84 = .ok (.ireturn, 1) := by decide +kernel
theorem dX11_carries_0 : decode cX11_carries 0 = .ok (.iload_n 1, 1) := by decide +kernel
theorem dX11_carries_1 : decode cX11_carries 1 = .ok (.istore_n 3, 1) := by decide +kernel
theorem dX11_carries_2 : decode cX11_carries 2 = .ok (.iload_n 2, 1) := by decide +kernel
theorem dX11_carries_3 : decode cX11_carries 3 = .ok (.istore 4, 2) := by decide +kernel
theorem dX11_carries_5 : decode cX11_carries 5 = .ok (.iload 4, 2) := by decide +kernel
theorem dX11_carries_7 : decode cX11_carries 7 = .ok (.ifCond .lt 49, 3) := by decide +kernel
theorem dX11_carries_10 : decode cX11_carries 10 = .ok (.aload_n 0, 1) := by decide +kernel
theorem dX11_carries_11 : decode cX11_carries 11 = .ok (.getfield 29, 3) := by decide +kernel
theorem dX11_carries_14 : decode cX11_carries 14 = .ok (.iload_n 3, 1) := by decide +kernel
theorem dX11_carries_15 : decode cX11_carries 15 = .ok (.iaload, 1) := by decide +kernel
theorem dX11_carries_16 : decode cX11_carries 16 = .ok (.aload_n 0, 1) := by decide +kernel
theorem dX11_carries_17 : decode cX11_carries 17 = .ok (.getfield 29, 3) := by decide +kernel
theorem dX11_carries_20 : decode cX11_carries 20 = .ok (.aload_n 0, 1) := by decide +kernel
theorem dX11_carries_21 : decode cX11_carries 21 = .ok (.getfield 42, 3) := by decide +kernel
theorem dX11_carries_24 : decode cX11_carries 24 = .ok (.iload 4, 2) := by decide +kernel
theorem dX11_carries_26 : decode cX11_carries 26 = .ok (.iaload, 1) := by decide +kernel
theorem dX11_carries_27 : decode cX11_carries 27 = .ok (.iaload, 1) := by decide +kernel
theorem dX11_carries_28 : decode cX11_carries 28 = .ok (.if_icmp .lt 28, 3) := by decide +kernel
theorem dX11_carries_31 : decode cX11_carries 31 = .ok (.aload_n 0, 1) := by decide +kernel
theorem dX11_carries_32 : decode cX11_carries 32 = .ok (.iload_n 3, 1) := by decide +kernel
theorem dX11_carries_33 : decode cX11_carries 33 = .ok (.aload_n 0, 1) := by decide +kernel
theorem dX11_carries_34 : decode cX11_carries 34 = .ok (.getfield 42, 3) := by decide +kernel
theorem dX11_carries_37 : decode cX11_carries 37 = .ok (.iload 4, 2) := by decide +kernel
theorem dX11_carries_39 : decode cX11_carries 39 = .ok (.iaload, 1) := by decide +kernel
theorem dX11_carries_40 : decode cX11_carries 40 = .ok (.invokevirtual 211, 3) := by decide +kernel
theorem dX11_carries_43 : decode cX11_carries 43 = .ok (.istore_n 3, 1) := by decide +kernel
theorem dX11_carries_44 : decode cX11_carries 44 = .ok (.aload_n 0, 1) := by decide +kernel
theorem dX11_carries_45 : decode cX11_carries 45 = .ok (.getfield 45, 3) := by decide +kernel
theorem dX11_carries_48 : decode cX11_carries 48 = .ok (.iload 4, 2) := by decide +kernel
theorem dX11_carries_50 : decode cX11_carries 50 = .ok (.iaload, 1) := by decide +kernel
theorem dX11_carries_51 : decode cX11_carries 51 = .ok (.istore 4, 2) := by decide +kernel
theorem dX11_carries_53 : decode cX11_carries 53 = .ok (.goto (-48), 3) := by decide +kernel
theorem dX11_carries_56 : decode cX11_carries 56 = .ok (.aload_n 0, 1) := by decide +kernel
theorem dX11_carries_57 : decode cX11_carries 57 = .ok (.iload_n 3, 1) := by decide +kernel
theorem dX11_carries_58 : decode cX11_carries 58 = .ok (.iload 4, 2) := by decide +kernel
theorem dX11_carries_60 : decode cX11_carries 60 = .ok (.invokevirtual 204, 3) := by decide +kernel
theorem dX11_carries_63 : decode cX11_carries 63 = .ok (.ireturn, 1) := by decide +kernel
theorem dX11_sets_0 : decode cX11_sets 0 = .ok (.iload_n 3, 1) := by decide +kernel
theorem dX11_sets_1 : decode cX11_sets 1 = .ok (.ifCond .ge 7, 3) := by decide +kernel
theorem dX11_sets_4 : decode cX11_sets 4 = .ok (.iconst (-1), 1) := by decide +kernel
theorem dX11_sets_5 : decode cX11_sets 5 = .ok (.goto 9, 3) := by decide +kernel
theorem dX11_sets_8 : decode cX11_sets 8 = .ok (.aload_n 0, 1) := by decide +kernel
theorem dX11_sets_9 : decode cX11_sets 9 = .ok (.getfield 45, 3) := by decide +kernel
theorem dX11_sets_12 : decode cX11_sets 12 = .ok (.iload_n 3, 1) := by decide +kernel
theorem dX11_sets_13 : decode cX11_sets 13 = .ok (.iaload, 1) := by decide +kernel
theorem dX11_sets_14 : decode cX11_sets 14 = .ok (.istore 4, 2) := by decide +kernel
theorem dX11_sets_16 : decode cX11_sets 16 = .ok (.iload_n 1, 1) := by decide +kernel
theorem dX11_sets_17 : decode cX11_sets 17 = .ok (.ifCond .ne 148, 3) := by decide +kernel
theorem dX11_sets_20 : decode cX11_sets 20 = .ok (.iload 4, 2) := by decide +kernel
theorem dX11_sets_22 : decode cX11_sets 22 = .ok (.ifCond .lt 143, 3) := by decide +kernel
theorem dX11_sets_25 : decode cX11_sets 25 = .ok (.aload_n 0, 1) := by decide +kernel
theorem dX11_sets_26 : decode cX11_sets 26 = .ok (.getfield 29, 3) := by decide +kernel
theorem dX11_sets_29 : decode cX11_sets 29 = .ok (.aload_n 0, 1) := by decide +kernel
theorem dX11_sets_30 : decode cX11_sets 30 = .ok (.getfield 42, 3) := by decide +kernel
theorem dX11_sets_33 : decode cX11_sets 33 = .ok (.iload_n 3, 1) := by decide +kernel
theorem dX11_sets_34 : decode cX11_sets 34 = .ok (.iaload, 1) := by decide +kernel
theorem dX11_sets_35 : decode cX11_sets 35 = .ok (.iaload, 1) := by decide +kernel
theorem dX11_sets_36 : decode cX11_sets 36 = .ok (.aload_n 0, 1) := by decide +kernel
theorem dX11_sets_37 : decode cX11_sets 37 = .ok (.getfield 29, 3) := by decide +kernel
theorem dX11_sets_40 : decode cX11_sets 40 = .ok (.aload_n 0, 1) := by decide +kernel
theorem dX11_sets_41 : decode cX11_sets 41 = .ok (.getfield 42, 3) := by decide +kernel
theorem dX11_sets_44 : decode cX11_sets 44 = .ok (.iload 4, 2) := by decide +kernel
theorem dX11_sets_46 : decode cX11_sets 46 = .ok (.iaload, 1) := by decide +kernel
theorem dX11_sets_47 : decode cX11_sets 47 = .ok (.iaload, 1) := by decide +kernel
theorem dX11_sets_48 : decode cX11_sets 48 = .ok (.if_icmp .ne 117, 3) := by decide +kernel
theorem dX11_sets_51 : decode cX11_sets 51 = .ok (.aload_n 0, 1) := by decide +kernel
theorem dX11_sets_52 : decode cX11_sets 52 = .ok (.aload_n 0, 1) := by decide +kernel
theorem dX11_sets_53 : decode cX11_sets 53 = .ok (.getfield 42, 3) := by decide +kernel
theorem dX11_sets_56 : decode cX11_sets 56 = .ok (.iload_n 3, 1) := by decide +kernel
theorem dX11_sets_57 : decode cX11_sets 57 = .ok (.iaload, 1) := by decide +kernel
theorem dX11_sets_58 : decode cX11_sets 58 = .ok (.aload_n 0, 1) := by decide +kernel
theorem dX11_sets_59 : decode cX11_sets 59 = .ok (.getfield 42, 3) := by decide +kernel
theorem dX11_sets_62 : decode cX11_sets 62 = .ok (.iload 4, 2) := by decide +kernel
theorem dX11_sets_64 : decode cX11_sets 64 = .ok (.iaload, 1) := by decide +kernel
theorem dX11_sets_65 : decode cX11_sets 65 = .ok (.invokevirtual 211, 3) := by decide +kernel
theorem dX11_sets_68 : decode cX11_sets 68 = .ok (.istore 5, 2) := by decide +kernel
theorem dX11_sets_70 : decode cX11_sets 70 = .ok (.aload_n 0, 1) := by decide +kernel
theorem dX11_sets_71 : decode cX11_sets 71 = .ok (.aload_n 0, 1) := by decide +kernel
theorem dX11_sets_72 : decode cX11_sets 72 = .ok (.getfield 32, 3) := by decide +kernel
theorem dX11_sets_75 : decode cX11_sets 75 = .ok (.iload 5, 2) := by decide +kernel
theorem dX11_sets_77 : decode cX11_sets 77 = .ok (.iaload, 1) := by decide +kernel
theorem dX11_sets_78 : decode cX11_sets 78 = .ok (.iload_n 2, 1) := by decide +kernel
theorem dX11_sets_79 : decode cX11_sets 79 = .ok (.invokevirtual 201, 3) := by decide +kernel
theorem dX11_sets_82 : decode cX11_sets 82 = .ok (.istore 6, 2) := by decide +kernel
theorem dX11_sets_84 : decode cX11_sets 84 = .ok (.iload 6, 2) := by decide +kernel
theorem dX11_sets_86 : decode cX11_sets 86 = .ok (.ifCond .eq 13, 3) := by decide +kernel
theorem dX11_sets_89 : decode cX11_sets 89 = .ok (.aload_n 0, 1) := by decide +kernel
theorem dX11_sets_90 : decode cX11_sets 90 = .ok (.getfield 32, 3) := by decide +kernel
theorem dX11_sets_93 : decode cX11_sets 93 = .ok (.iload 5, 2) := by decide +kernel
theorem dX11_sets_95 : decode cX11_sets 95 = .ok (.iaload, 1) := by decide +kernel
theorem dX11_sets_96 : decode cX11_sets 96 = .ok (.goto 4, 3) := by decide +kernel
theorem dX11_sets_99 : decode cX11_sets 99 = .ok (.iload_n 2, 1) := by decide +kernel
theorem dX11_sets_100 : decode cX11_sets 100 = .ok (.istore 7, 2) := by decide +kernel
theorem dX11_sets_102 : decode cX11_sets 102 = .ok (.iload 6, 2) := by decide +kernel
theorem dX11_sets_104 : decode cX11_sets 104 = .ok (.ifCond .eq 7, 3) := by decide +kernel
theorem dX11_sets_107 : decode cX11_sets 107 = .ok (.iload_n 2, 1) := by decide +kernel
theorem dX11_sets_108 : decode cX11_sets 108 = .ok (.goto 10, 3) := by decide +kernel
theorem dX11_sets_111 : decode cX11_sets 111 = .ok (.aload_n 0, 1) := by decide +kernel
theorem dX11_sets_112 : decode cX11_sets 112 = .ok (.getfield 32, 3) := by decide +kernel
theorem dX11_sets_115 : decode cX11_sets 115 = .ok (.iload 5, 2) := by decide +kernel
theorem dX11_sets_117 : decode cX11_sets 117 = .ok (.iaload, 1) := by decide +kernel
theorem dX11_sets_118 : decode cX11_sets 118 = .ok (.istore 8, 2) := by decide +kernel
theorem dX11_sets_120 : decode cX11_sets 120 = .ok (.aload_n 0, 1) := by decide +kernel
theorem dX11_sets_121 : decode cX11_sets 121 = .ok (.aload_n 0, 1) := by decide +kernel
theorem dX11_sets_122 : decode cX11_sets 122 = .ok (.aload_n 0, 1) := by decide +kernel
theorem dX11_sets_123 : decode cX11_sets 123 = .ok (.getfield 29, 3) := by decide +kernel
theorem dX11_sets_126 : decode cX11_sets 126 = .ok (.iload 5, 2) := by decide +kernel
theorem dX11_sets_128 : decode cX11_sets 128 = .ok (.iaload, 1) := by decide +kernel
theorem dX11_sets_129 : decode cX11_sets 129 = .ok (.iload 7, 2) := by decide +kernel
theorem dX11_sets_131 : decode cX11_sets 131 = .ok (.aload_n 0, 1) := by decide +kernel
theorem dX11_sets_132 : decode cX11_sets 132 = .ok (.iload 8, 2) := by decide +kernel
theorem dX11_sets_134 : decode cX11_sets 134 = .ok (.aload_n 0, 1) := by decide +kernel
theorem dX11_sets_135 : decode cX11_sets 135 = .ok (.getfield 35, 3) := by decide +kernel
theorem dX11_sets_138 : decode cX11_sets 138 = .ok (.iload 5, 2) := by decide +kernel
theorem dX11_sets_140 : decode cX11_sets 140 = .ok (.iaload, 1) := by decide +kernel
theorem dX11_sets_141 : decode cX11_sets 141 = .ok (.invokevirtual 204, 3) := by decide +kernel
theorem dX11_sets_144 : decode cX11_sets 144 = .ok (.aload_n 0, 1) := by decide +kernel
theorem dX11_sets_145 : decode cX11_sets 145 = .ok (.getfield 38, 3) := by decide +kernel
theorem dX11_sets_148 : decode cX11_sets 148 = .ok (.iload 5, 2) := by decide +kernel
theorem dX11_sets_150 : decode cX11_sets 150 = .ok (.iaload, 1) := by decide +kernel
theorem dX11_sets_151 : decode cX11_sets 151 = .ok (.invokevirtual 207, 3) := by decide +kernel
theorem dX11_sets_154 : decode cX11_sets 154 = .ok (.aload_n 0, 1) := by decide +kernel
theorem dX11_sets_155 : decode cX11_sets 155 = .ok (.getfield 45, 3) := by decide +kernel
theorem dX11_sets_158 : decode cX11_sets 158 = .ok (.iload 4, 2) := by decide +kernel
theorem dX11_sets_160 : decode cX11_sets 160 = .ok (.iaload, 1) := by decide +kernel
theorem dX11_sets_161 : decode cX11_sets 161 = .ok (.invokevirtual 204, 3) := by decide +kernel
theorem dX11_sets_164 : decode cX11_sets 164 = .ok (.ireturn, 1) := by decide +kernel
theorem dX11_sets_165 : decode cX11_sets 165 = .ok (.aload_n 0, 1) := by decide +kernel
theorem dX11_sets_166 : decode cX11_sets 166 = .ok (.iconst 0, 1) := by decide +kernel
theorem dX11_sets_167 : decode cX11_sets 167 = .ok (.iload_n 2, 1) := by decide +kernel
theorem dX11_sets_168 : decode cX11_sets 168 = .ok (.iconst (-1), 1) := by decide +kernel
theorem dX11_sets_169 : decode cX11_sets 169 = .ok (.iconst (-1), 1) := by decide +kernel
theorem dX11_sets_170 : decode cX11_sets 170 = .ok (.invokevirtual 207, 3) := by decide +kernel
theorem dX11_sets_173 : decode cX11_sets 173 = .ok (.istore 5, 2) := by decide +kernel
theorem dX11_sets_175 : decode cX11_sets 175 = .ok (.iload_n 1, 1) := by decide +kernel
theorem dX11_sets_176 : decode cX11_sets 176 = .ok (.ifCond .ne 13, 3) := by decide +kernel
theorem dX11_sets_179 : decode cX11_sets 179 = .ok (.aload_n 0, 1) := by decide +kernel
theorem dX11_sets_180 : decode cX11_sets 180 = .ok (.iload 5, 2) := by decide +kernel
theorem dX11_sets_182 : decode cX11_sets 182 = .ok (.iload_n 3, 1) := by decide +kernel
theorem dX11_sets_183 : decode cX11_sets 183 = .ok (.invokevirtual 204, 3) := by decide +kernel
theorem dX11_sets_186 : decode cX11_sets 186 = .ok (.goto 10, 3) := by decide +kernel
theorem dX11_sets_189 : decode cX11_sets 189 = .ok (.aload_n 0, 1) := by decide +kernel
theorem dX11_sets_190 : decode cX11_sets 190 = .ok (.iload 5, 2) := by decide +kernel
theorem dX11_sets_192 : decode cX11_sets 192 = .ok (.iload_n 3, 1) := by decide +kernel
theorem dX11_sets_193 : decode cX11_sets 193 = .ok (.invokevirtual 214, 3) := by decide +kernel
theorem dX11_sets_196 : decode cX11_sets 196 = .ok (.ireturn, 1) := by decide +kernel
theorem dX11_settled_0 : decode cX11_settled 0 = .ok (.iload_n 1, 1) := by decide +kernel
theorem dX11_settled_1 : decode cX11_settled 1 = .ok (.ifCond .ge 7, 3) := by decide +kernel
theorem dX11_settled_4 : decode cX11_settled 4 = .ok (.iconst (-1), 1) := by decide +kernel
theorem dX11_settled_5 : decode cX11_settled 5 = .ok (.goto 19, 3) := by decide +kernel
theorem dX11_settled_8 : decode cX11_settled 8 = .ok (.aload_n 0, 1) := by decide +kernel
theorem dX11_settled_9 : decode cX11_settled 9 = .ok (.aload_n 0, 1) := by decide +kernel
theorem dX11_settled_10 : decode cX11_settled 10 = .ok (.getfield 42, 3) := by decide +kernel
theorem dX11_settled_13 : decode cX11_settled 13 = .ok (.iload_n 1, 1) := by decide +kernel
theorem dX11_settled_14 : decode cX11_settled 14 = .ok (.iaload, 1) := by decide +kernel
theorem dX11_settled_15 : decode cX11_settled 15 = .ok (.aload_n 0, 1) := by decide +kernel
theorem dX11_settled_16 : decode cX11_settled 16 = .ok (.getfield 45, 3) := by decide +kernel
theorem dX11_settled_19 : decode cX11_settled 19 = .ok (.iload_n 1, 1) := by decide +kernel
theorem dX11_settled_20 : decode cX11_settled 20 = .ok (.iaload, 1) := by decide +kernel
theorem dX11_settled_21 : decode cX11_settled 21 = .ok (.invokevirtual 214, 3) := by decide +kernel
theorem dX11_settled_24 : decode cX11_settled 24 = .ok (.ireturn, 1) := by decide +kernel
theorem dX11_merges_0 : decode cX11_merges 0 = .ok (.aload_n 0, 1) := by decide +kernel
theorem dX11_merges_1 : decode cX11_merges 1 = .ok (.iload_n 1, 1) := by decide +kernel
theorem dX11_merges_2 : decode cX11_merges 2 = .ok (.invokevirtual 217, 3) := by decide +kernel
theorem dX11_merges_5 : decode cX11_merges 5 = .ok (.istore_n 3, 1) := by decide +kernel
theorem dX11_merges_6 : decode cX11_merges 6 = .ok (.aload_n 0, 1) := by decide +kernel
theorem dX11_merges_7 : decode cX11_merges 7 = .ok (.iload_n 3, 1) := by decide +kernel
theorem dX11_merges_8 : decode cX11_merges 8 = .ok (.aload_n 0, 1) := by decide +kernel
theorem dX11_merges_9 : decode cX11_merges 9 = .ok (.iload_n 2, 1) := by decide +kernel
theorem dX11_merges_10 : decode cX11_merges 10 = .ok (.invokevirtual 217, 3) := by decide +kernel
theorem dX11_merges_13 : decode cX11_merges 13 = .ok (.invokevirtual 220, 3) := by decide +kernel
theorem dX11_merges_16 : decode cX11_merges 16 = .ok (.ireturn, 1) := by decide +kernel
theorem dX11_goesTogether_0 : decode cX11_goesTogether 0 = .ok (.iload_n 1, 1) := by decide +kernel
theorem dX11_goesTogether_1 : decode cX11_goesTogether 1 = .ok (.ifCond .lt 7, 3) := by decide +kernel
theorem dX11_goesTogether_4 : decode cX11_goesTogether 4 = .ok (.iload_n 2, 1) := by decide +kernel
theorem dX11_goesTogether_5 : decode cX11_goesTogether 5 = .ok (.ifCond .ge 13, 3) := by decide +kernel
theorem dX11_goesTogether_8 : decode cX11_goesTogether 8 = .ok (.iload_n 1, 1) := by decide +kernel
theorem dX11_goesTogether_9 : decode cX11_goesTogether 9 = .ok (.ifCond .ge 7, 3) := by decide +kernel
theorem dX11_goesTogether_12 : decode cX11_goesTogether 12 = .ok (.iload_n 2, 1) := by decide +kernel
theorem dX11_goesTogether_13 : decode cX11_goesTogether 13 = .ok (.goto 4, 3) := by decide +kernel
theorem dX11_goesTogether_16 : decode cX11_goesTogether 16 = .ok (.iload_n 1, 1) := by decide +kernel
theorem dX11_goesTogether_17 : decode cX11_goesTogether 17 = .ok (.ireturn, 1) := by decide +kernel
theorem dX11_goesTogether_18 : decode cX11_goesTogether 18 = .ok (.aload_n 0, 1) := by decide +kernel
theorem dX11_goesTogether_19 : decode cX11_goesTogether 19 = .ok (.getfield 42, 3) := by decide +kernel
theorem dX11_goesTogether_22 : decode cX11_goesTogether 22 = .ok (.iload_n 1, 1) := by decide +kernel
theorem dX11_goesTogether_23 : decode cX11_goesTogether 23 = .ok (.iaload, 1) := by decide +kernel
theorem dX11_goesTogether_24 : decode cX11_goesTogether 24 = .ok (.istore_n 3, 1) := by decide +kernel
theorem dX11_goesTogether_25 : decode cX11_goesTogether 25 = .ok (.aload_n 0, 1) := by decide +kernel
theorem dX11_goesTogether_26 : decode cX11_goesTogether 26 = .ok (.getfield 42, 3) := by decide +kernel
theorem dX11_goesTogether_29 : decode cX11_goesTogether 29 = .ok (.iload_n 2, 1) := by decide +kernel
theorem dX11_goesTogether_30 : decode cX11_goesTogether 30 = .ok (.iaload, 1) := by decide +kernel
theorem dX11_goesTogether_31 : decode cX11_goesTogether 31 = .ok (.istore 4, 2) := by decide +kernel
theorem dX11_goesTogether_33 : decode cX11_goesTogether 33 = .ok (.aload_n 0, 1) := by decide +kernel
theorem dX11_goesTogether_34 : decode cX11_goesTogether 34 = .ok (.getfield 29, 3) := by decide +kernel
theorem dX11_goesTogether_37 : decode cX11_goesTogether 37 = .ok (.iload_n 3, 1) := by decide +kernel
theorem dX11_goesTogether_38 : decode cX11_goesTogether 38 = .ok (.iaload, 1) := by decide +kernel
theorem dX11_goesTogether_39 : decode cX11_goesTogether 39 = .ok (.aload_n 0, 1) := by decide +kernel
theorem dX11_goesTogether_40 : decode cX11_goesTogether 40 = .ok (.getfield 29, 3) := by decide +kernel
theorem dX11_goesTogether_43 : decode cX11_goesTogether 43 = .ok (.iload 4, 2) := by decide +kernel
theorem dX11_goesTogether_45 : decode cX11_goesTogether 45 = .ok (.iaload, 1) := by decide +kernel
theorem dX11_goesTogether_46 : decode cX11_goesTogether 46 = .ok (.if_icmp .ge 20, 3) := by decide +kernel
theorem dX11_goesTogether_49 : decode cX11_goesTogether 49 = .ok (.aload_n 0, 1) := by decide +kernel
theorem dX11_goesTogether_50 : decode cX11_goesTogether 50 = .ok (.iload_n 3, 1) := by decide +kernel
theorem dX11_goesTogether_51 : decode cX11_goesTogether 51 = .ok (.aload_n 0, 1) := by decide +kernel
theorem dX11_goesTogether_52 : decode cX11_goesTogether 52 = .ok (.aload_n 0, 1) := by decide +kernel
theorem dX11_goesTogether_53 : decode cX11_goesTogether 53 = .ok (.getfield 45, 3) := by decide +kernel
theorem dX11_goesTogether_56 : decode cX11_goesTogether 56 = .ok (.iload_n 1, 1) := by decide +kernel
theorem dX11_goesTogether_57 : decode cX11_goesTogether 57 = .ok (.iaload, 1) := by decide +kernel
theorem dX11_goesTogether_58 : decode cX11_goesTogether 58 = .ok (.iload_n 2, 1) := by decide +kernel
theorem dX11_goesTogether_59 : decode cX11_goesTogether 59 = .ok (.invokevirtual 220, 3) := by decide +kernel
theorem dX11_goesTogether_62 : decode cX11_goesTogether 62 = .ok (.invokevirtual 204, 3) := by decide +kernel
theorem dX11_goesTogether_65 : decode cX11_goesTogether 65 = .ok (.ireturn, 1) := by decide +kernel
theorem dX11_goesTogether_66 : decode cX11_goesTogether 66 = .ok (.aload_n 0, 1) := by decide +kernel
theorem dX11_goesTogether_67 : decode cX11_goesTogether 67 = .ok (.getfield 29, 3) := by decide +kernel
theorem dX11_goesTogether_70 : decode cX11_goesTogether 70 = .ok (.iload 4, 2) := by decide +kernel
theorem dX11_goesTogether_72 : decode cX11_goesTogether 72 = .ok (.iaload, 1) := by decide +kernel
theorem dX11_goesTogether_73 : decode cX11_goesTogether 73 = .ok (.aload_n 0, 1) := by decide +kernel
theorem dX11_goesTogether_74 : decode cX11_goesTogether 74 = .ok (.getfield 29, 3) := by decide +kernel
theorem dX11_goesTogether_77 : decode cX11_goesTogether 77 = .ok (.iload_n 3, 1) := by decide +kernel
theorem dX11_goesTogether_78 : decode cX11_goesTogether 78 = .ok (.iaload, 1) := by decide +kernel
theorem dX11_goesTogether_79 : decode cX11_goesTogether 79 = .ok (.if_icmp .ge 21, 3) := by decide +kernel
theorem dX11_goesTogether_82 : decode cX11_goesTogether 82 = .ok (.aload_n 0, 1) := by decide +kernel
theorem dX11_goesTogether_83 : decode cX11_goesTogether 83 = .ok (.iload 4, 2) := by decide +kernel
theorem dX11_goesTogether_85 : decode cX11_goesTogether 85 = .ok (.aload_n 0, 1) := by decide +kernel
theorem dX11_goesTogether_86 : decode cX11_goesTogether 86 = .ok (.iload_n 1, 1) := by decide +kernel
theorem dX11_goesTogether_87 : decode cX11_goesTogether 87 = .ok (.aload_n 0, 1) := by decide +kernel
theorem dX11_goesTogether_88 : decode cX11_goesTogether 88 = .ok (.getfield 45, 3) := by decide +kernel
theorem dX11_goesTogether_91 : decode cX11_goesTogether 91 = .ok (.iload_n 2, 1) := by decide +kernel
theorem dX11_goesTogether_92 : decode cX11_goesTogether 92 = .ok (.iaload, 1) := by decide +kernel
theorem dX11_goesTogether_93 : decode cX11_goesTogether 93 = .ok (.invokevirtual 220, 3) := by decide +kernel
theorem dX11_goesTogether_96 : decode cX11_goesTogether 96 = .ok (.invokevirtual 204, 3) := by decide +kernel
theorem dX11_goesTogether_99 : decode cX11_goesTogether 99 = .ok (.ireturn, 1) := by decide +kernel
theorem dX11_goesTogether_100 : decode cX11_goesTogether 100 = .ok (.aload_n 0, 1) := by decide +kernel
theorem dX11_goesTogether_101 : decode cX11_goesTogether 101 = .ok (.aload_n 0, 1) := by decide +kernel
theorem dX11_goesTogether_102 : decode cX11_goesTogether 102 = .ok (.getfield 45, 3) := by decide +kernel
theorem dX11_goesTogether_105 : decode cX11_goesTogether 105 = .ok (.iload_n 1, 1) := by decide +kernel
theorem dX11_goesTogether_106 : decode cX11_goesTogether 106 = .ok (.iaload, 1) := by decide +kernel
theorem dX11_goesTogether_107 : decode cX11_goesTogether 107 = .ok (.aload_n 0, 1) := by decide +kernel
theorem dX11_goesTogether_108 : decode cX11_goesTogether 108 = .ok (.getfield 45, 3) := by decide +kernel
theorem dX11_goesTogether_111 : decode cX11_goesTogether 111 = .ok (.iload_n 2, 1) := by decide +kernel
theorem dX11_goesTogether_112 : decode cX11_goesTogether 112 = .ok (.iaload, 1) := by decide +kernel
theorem dX11_goesTogether_113 : decode cX11_goesTogether 113 = .ok (.invokevirtual 220, 3) := by decide +kernel
theorem dX11_goesTogether_116 : decode cX11_goesTogether 116 = .ok (.istore 5, 2) := by decide +kernel
theorem dX11_goesTogether_118 : decode cX11_goesTogether 118 = .ok (.aload_n 0, 1) := by decide +kernel
theorem dX11_goesTogether_119 : decode cX11_goesTogether 119 = .ok (.aload_n 0, 1) := by decide +kernel
theorem dX11_goesTogether_120 : decode cX11_goesTogether 120 = .ok (.iload_n 3, 1) := by decide +kernel
theorem dX11_goesTogether_121 : decode cX11_goesTogether 121 = .ok (.iload 4, 2) := by decide +kernel
theorem dX11_goesTogether_123 : decode cX11_goesTogether 123 = .ok (.invokevirtual 211, 3) := by decide +kernel
theorem dX11_goesTogether_126 : decode cX11_goesTogether 126 = .ok (.iload 5, 2) := by decide +kernel
theorem dX11_goesTogether_128 : decode cX11_goesTogether 128 = .ok (.invokevirtual 214, 3) := by decide +kernel
theorem dX11_goesTogether_131 : decode cX11_goesTogether 131 = .ok (.ireturn, 1) := by decide +kernel
theorem dX11_joins_0 : decode cX11_joins 0 = .ok (.iload_n 2, 1) := by decide +kernel
theorem dX11_joins_1 : decode cX11_joins 1 = .ok (.ifCond .lt 7, 3) := by decide +kernel
theorem dX11_joins_4 : decode cX11_joins 4 = .ok (.iload_n 3, 1) := by decide +kernel
theorem dX11_joins_5 : decode cX11_joins 5 = .ok (.ifCond .ge 13, 3) := by decide +kernel
theorem dX11_joins_8 : decode cX11_joins 8 = .ok (.iload_n 2, 1) := by decide +kernel
theorem dX11_joins_9 : decode cX11_joins 9 = .ok (.ifCond .ge 7, 3) := by decide +kernel
theorem dX11_joins_12 : decode cX11_joins 12 = .ok (.iload_n 3, 1) := by decide +kernel
theorem dX11_joins_13 : decode cX11_joins 13 = .ok (.goto 4, 3) := by decide +kernel
theorem dX11_joins_16 : decode cX11_joins 16 = .ok (.iload_n 2, 1) := by decide +kernel
theorem dX11_joins_17 : decode cX11_joins 17 = .ok (.ireturn, 1) := by decide +kernel
theorem dX11_joins_18 : decode cX11_joins 18 = .ok (.aload_n 0, 1) := by decide +kernel
theorem dX11_joins_19 : decode cX11_joins 19 = .ok (.iload_n 3, 1) := by decide +kernel
theorem dX11_joins_20 : decode cX11_joins 20 = .ok (.iload_n 2, 1) := by decide +kernel
theorem dX11_joins_21 : decode cX11_joins 21 = .ok (.invokevirtual 201, 3) := by decide +kernel
theorem dX11_joins_24 : decode cX11_joins 24 = .ok (.istore 4, 2) := by decide +kernel
theorem dX11_joins_26 : decode cX11_joins 26 = .ok (.iload 4, 2) := by decide +kernel
theorem dX11_joins_28 : decode cX11_joins 28 = .ok (.ifCond .eq 7, 3) := by decide +kernel
theorem dX11_joins_31 : decode cX11_joins 31 = .ok (.iload_n 3, 1) := by decide +kernel
theorem dX11_joins_32 : decode cX11_joins 32 = .ok (.goto 4, 3) := by decide +kernel
theorem dX11_joins_35 : decode cX11_joins 35 = .ok (.iload_n 2, 1) := by decide +kernel
theorem dX11_joins_36 : decode cX11_joins 36 = .ok (.istore 5, 2) := by decide +kernel
theorem dX11_joins_38 : decode cX11_joins 38 = .ok (.aload_n 0, 1) := by decide +kernel
theorem dX11_joins_39 : decode cX11_joins 39 = .ok (.aload_n 0, 1) := by decide +kernel
theorem dX11_joins_40 : decode cX11_joins 40 = .ok (.getfield 23, 3) := by decide +kernel
theorem dX11_joins_43 : decode cX11_joins 43 = .ok (.iload 5, 2) := by decide +kernel
theorem dX11_joins_45 : decode cX11_joins 45 = .ok (.iaload, 1) := by decide +kernel
theorem dX11_joins_46 : decode cX11_joins 46 = .ok (.aload_n 0, 1) := by decide +kernel
theorem dX11_joins_47 : decode cX11_joins 47 = .ok (.iload_n 1, 1) := by decide +kernel
theorem dX11_joins_48 : decode cX11_joins 48 = .ok (.iload 4, 2) := by decide +kernel
theorem dX11_joins_50 : decode cX11_joins 50 = .ok (.ifCond .eq 7, 3) := by decide +kernel
theorem dX11_joins_53 : decode cX11_joins 53 = .ok (.iload_n 2, 1) := by decide +kernel
theorem dX11_joins_54 : decode cX11_joins 54 = .ok (.goto 4, 3) := by decide +kernel
theorem dX11_joins_57 : decode cX11_joins 57 = .ok (.iload_n 3, 1) := by decide +kernel
theorem dX11_joins_58 : decode cX11_joins 58 = .ok (.aload_n 0, 1) := by decide +kernel
theorem dX11_joins_59 : decode cX11_joins 59 = .ok (.getfield 26, 3) := by decide +kernel
theorem dX11_joins_62 : decode cX11_joins 62 = .ok (.iload 5, 2) := by decide +kernel
theorem dX11_joins_64 : decode cX11_joins 64 = .ok (.iaload, 1) := by decide +kernel
theorem dX11_joins_65 : decode cX11_joins 65 = .ok (.invokevirtual 223, 3) := by decide +kernel
theorem dX11_joins_68 : decode cX11_joins 68 = .ok (.invokevirtual 227, 3) := by decide +kernel
theorem dX11_joins_71 : decode cX11_joins 71 = .ok (.ireturn, 1) := by decide +kernel
theorem dX11_takes_0 : decode cX11_takes 0 = .ok (.iload_n 2, 1) := by decide +kernel
theorem dX11_takes_1 : decode cX11_takes 1 = .ok (.ifCond .ge 7, 3) := by decide +kernel
theorem dX11_takes_4 : decode cX11_takes 4 = .ok (.iconst (-1), 1) := by decide +kernel
theorem dX11_takes_5 : decode cX11_takes 5 = .ok (.goto 9, 3) := by decide +kernel
theorem dX11_takes_8 : decode cX11_takes 8 = .ok (.aload_n 0, 1) := by decide +kernel
theorem dX11_takes_9 : decode cX11_takes 9 = .ok (.getfield 26, 3) := by decide +kernel
theorem dX11_takes_12 : decode cX11_takes 12 = .ok (.iload_n 2, 1) := by decide +kernel
theorem dX11_takes_13 : decode cX11_takes 13 = .ok (.iaload, 1) := by decide +kernel
theorem dX11_takes_14 : decode cX11_takes 14 = .ok (.istore_n 3, 1) := by decide +kernel
theorem dX11_takes_15 : decode cX11_takes 15 = .ok (.iload_n 3, 1) := by decide +kernel
theorem dX11_takes_16 : decode cX11_takes 16 = .ok (.ifCond .ge 5, 3) := by decide +kernel
theorem dX11_takes_19 : decode cX11_takes 19 = .ok (.iconst (-1), 1) := by decide +kernel
theorem dX11_takes_20 : decode cX11_takes 20 = .ok (.ireturn, 1) := by decide +kernel
theorem dX11_takes_21 : decode cX11_takes 21 = .ok (.aload_n 0, 1) := by decide +kernel
theorem dX11_takes_22 : decode cX11_takes 22 = .ok (.getfield 42, 3) := by decide +kernel
theorem dX11_takes_25 : decode cX11_takes 25 = .ok (.iload_n 3, 1) := by decide +kernel
theorem dX11_takes_26 : decode cX11_takes 26 = .ok (.iaload, 1) := by decide +kernel
theorem dX11_takes_27 : decode cX11_takes 27 = .ok (.istore 4, 2) := by decide +kernel
theorem dX11_takes_29 : decode cX11_takes 29 = .ok (.aload_n 0, 1) := by decide +kernel
theorem dX11_takes_30 : decode cX11_takes 30 = .ok (.getfield 45, 3) := by decide +kernel
theorem dX11_takes_33 : decode cX11_takes 33 = .ok (.iload_n 3, 1) := by decide +kernel
theorem dX11_takes_34 : decode cX11_takes 34 = .ok (.iaload, 1) := by decide +kernel
theorem dX11_takes_35 : decode cX11_takes 35 = .ok (.istore 5, 2) := by decide +kernel
theorem dX11_takes_37 : decode cX11_takes 37 = .ok (.iload 5, 2) := by decide +kernel
theorem dX11_takes_39 : decode cX11_takes 39 = .ok (.ifCond .lt 55, 3) := by decide +kernel
theorem dX11_takes_42 : decode cX11_takes 42 = .ok (.aload_n 0, 1) := by decide +kernel
theorem dX11_takes_43 : decode cX11_takes 43 = .ok (.aload_n 0, 1) := by decide +kernel
theorem dX11_takes_44 : decode cX11_takes 44 = .ok (.getfield 32, 3) := by decide +kernel
theorem dX11_takes_47 : decode cX11_takes 47 = .ok (.aload_n 0, 1) := by decide +kernel
theorem dX11_takes_48 : decode cX11_takes 48 = .ok (.getfield 42, 3) := by decide +kernel
theorem dX11_takes_51 : decode cX11_takes 51 = .ok (.iload 5, 2) := by decide +kernel
theorem dX11_takes_53 : decode cX11_takes 53 = .ok (.iaload, 1) := by decide +kernel
theorem dX11_takes_54 : decode cX11_takes 54 = .ok (.iaload, 1) := by decide +kernel
theorem dX11_takes_55 : decode cX11_takes 55 = .ok (.aload_n 0, 1) := by decide +kernel
theorem dX11_takes_56 : decode cX11_takes 56 = .ok (.getfield 32, 3) := by decide +kernel
theorem dX11_takes_59 : decode cX11_takes 59 = .ok (.iload 4, 2) := by decide +kernel
theorem dX11_takes_61 : decode cX11_takes 61 = .ok (.iaload, 1) := by decide +kernel
theorem dX11_takes_62 : decode cX11_takes 62 = .ok (.invokevirtual 201, 3) := by decide +kernel
theorem dX11_takes_65 : decode cX11_takes 65 = .ok (.ifCond .eq 13, 3) := by decide +kernel
theorem dX11_takes_68 : decode cX11_takes 68 = .ok (.aload_n 0, 1) := by decide +kernel
theorem dX11_takes_69 : decode cX11_takes 69 = .ok (.getfield 42, 3) := by decide +kernel
theorem dX11_takes_72 : decode cX11_takes 72 = .ok (.iload 5, 2) := by decide +kernel
theorem dX11_takes_74 : decode cX11_takes 74 = .ok (.iaload, 1) := by decide +kernel
theorem dX11_takes_75 : decode cX11_takes 75 = .ok (.goto 5, 3) := by decide +kernel
theorem dX11_takes_78 : decode cX11_takes 78 = .ok (.iload 4, 2) := by decide +kernel
theorem dX11_takes_80 : decode cX11_takes 80 = .ok (.istore 4, 2) := by decide +kernel
theorem dX11_takes_82 : decode cX11_takes 82 = .ok (.aload_n 0, 1) := by decide +kernel
theorem dX11_takes_83 : decode cX11_takes 83 = .ok (.getfield 45, 3) := by decide +kernel
theorem dX11_takes_86 : decode cX11_takes 86 = .ok (.iload 5, 2) := by decide +kernel
theorem dX11_takes_88 : decode cX11_takes 88 = .ok (.iaload, 1) := by decide +kernel
theorem dX11_takes_89 : decode cX11_takes 89 = .ok (.istore 5, 2) := by decide +kernel
theorem dX11_takes_91 : decode cX11_takes 91 = .ok (.goto (-54), 3) := by decide +kernel
theorem dX11_takes_94 : decode cX11_takes 94 = .ok (.iconst (-1), 1) := by decide +kernel
theorem dX11_takes_95 : decode cX11_takes 95 = .ok (.istore 5, 2) := by decide +kernel
theorem dX11_takes_97 : decode cX11_takes 97 = .ok (.aload_n 0, 1) := by decide +kernel
theorem dX11_takes_98 : decode cX11_takes 98 = .ok (.getfield 38, 3) := by decide +kernel
theorem dX11_takes_101 : decode cX11_takes 101 = .ok (.iload 4, 2) := by decide +kernel
theorem dX11_takes_103 : decode cX11_takes 103 = .ok (.iaload, 1) := by decide +kernel
theorem dX11_takes_104 : decode cX11_takes 104 = .ok (.istore 6, 2) := by decide +kernel
theorem dX11_takes_106 : decode cX11_takes 106 = .ok (.iload 6, 2) := by decide +kernel
theorem dX11_takes_108 : decode cX11_takes 108 = .ok (.ifCond .lt 30, 3) := by decide +kernel
theorem dX11_takes_111 : decode cX11_takes 111 = .ok (.aload_n 0, 1) := by decide +kernel
theorem dX11_takes_112 : decode cX11_takes 112 = .ok (.aload_n 0, 1) := by decide +kernel
theorem dX11_takes_113 : decode cX11_takes 113 = .ok (.getfield 42, 3) := by decide +kernel
theorem dX11_takes_116 : decode cX11_takes 116 = .ok (.iload 6, 2) := by decide +kernel
theorem dX11_takes_118 : decode cX11_takes 118 = .ok (.iaload, 1) := by decide +kernel
theorem dX11_takes_119 : decode cX11_takes 119 = .ok (.iload 5, 2) := by decide +kernel
theorem dX11_takes_121 : decode cX11_takes 121 = .ok (.invokevirtual 204, 3) := by decide +kernel
theorem dX11_takes_124 : decode cX11_takes 124 = .ok (.istore 5, 2) := by decide +kernel
theorem dX11_takes_126 : decode cX11_takes 126 = .ok (.aload_n 0, 1) := by decide +kernel
theorem dX11_takes_127 : decode cX11_takes 127 = .ok (.getfield 45, 3) := by decide +kernel
theorem dX11_takes_130 : decode cX11_takes 130 = .ok (.iload 6, 2) := by decide +kernel
theorem dX11_takes_132 : decode cX11_takes 132 = .ok (.iaload, 1) := by decide +kernel
theorem dX11_takes_133 : decode cX11_takes 133 = .ok (.istore 6, 2) := by decide +kernel
theorem dX11_takes_135 : decode cX11_takes 135 = .ok (.goto (-29), 3) := by decide +kernel
theorem dX11_takes_138 : decode cX11_takes 138 = .ok (.aload_n 0, 1) := by decide +kernel
theorem dX11_takes_139 : decode cX11_takes 139 = .ok (.iload 5, 2) := by decide +kernel
theorem dX11_takes_141 : decode cX11_takes 141 = .ok (.aload_n 0, 1) := by decide +kernel
theorem dX11_takes_142 : decode cX11_takes 142 = .ok (.iload_n 3, 1) := by decide +kernel
theorem dX11_takes_143 : decode cX11_takes 143 = .ok (.iload 4, 2) := by decide +kernel
theorem dX11_takes_145 : decode cX11_takes 145 = .ok (.invokevirtual 230, 3) := by decide +kernel
theorem dX11_takes_148 : decode cX11_takes 148 = .ok (.invokevirtual 233, 3) := by decide +kernel
theorem dX11_takes_151 : decode cX11_takes 151 = .ok (.istore 6, 2) := by decide +kernel
theorem dX11_takes_153 : decode cX11_takes 153 = .ok (.aload_n 0, 1) := by decide +kernel
theorem dX11_takes_154 : decode cX11_takes 154 = .ok (.getfield 35, 3) := by decide +kernel
theorem dX11_takes_157 : decode cX11_takes 157 = .ok (.iload 4, 2) := by decide +kernel
theorem dX11_takes_159 : decode cX11_takes 159 = .ok (.iaload, 1) := by decide +kernel
theorem dX11_takes_160 : decode cX11_takes 160 = .ok (.istore 7, 2) := by decide +kernel
theorem dX11_takes_162 : decode cX11_takes 162 = .ok (.iload 7, 2) := by decide +kernel
theorem dX11_takes_164 : decode cX11_takes 164 = .ok (.ifCond .lt 31, 3) := by decide +kernel
theorem dX11_takes_167 : decode cX11_takes 167 = .ok (.aload_n 0, 1) := by decide +kernel
theorem dX11_takes_168 : decode cX11_takes 168 = .ok (.iload_n 1, 1) := by decide +kernel
theorem dX11_takes_169 : decode cX11_takes 169 = .ok (.aload_n 0, 1) := by decide +kernel
theorem dX11_takes_170 : decode cX11_takes 170 = .ok (.getfield 42, 3) := by decide +kernel
theorem dX11_takes_173 : decode cX11_takes 173 = .ok (.iload 7, 2) := by decide +kernel
theorem dX11_takes_175 : decode cX11_takes 175 = .ok (.iaload, 1) := by decide +kernel
theorem dX11_takes_176 : decode cX11_takes 176 = .ok (.iload 6, 2) := by decide +kernel
theorem dX11_takes_178 : decode cX11_takes 178 = .ok (.invokevirtual 223, 3) := by decide +kernel
theorem dX11_takes_181 : decode cX11_takes 181 = .ok (.istore 6, 2) := by decide +kernel
theorem dX11_takes_183 : decode cX11_takes 183 = .ok (.aload_n 0, 1) := by decide +kernel
theorem dX11_takes_184 : decode cX11_takes 184 = .ok (.getfield 45, 3) := by decide +kernel
theorem dX11_takes_187 : decode cX11_takes 187 = .ok (.iload 7, 2) := by decide +kernel
theorem dX11_takes_189 : decode cX11_takes 189 = .ok (.iaload, 1) := by decide +kernel
theorem dX11_takes_190 : decode cX11_takes 190 = .ok (.istore 7, 2) := by decide +kernel
theorem dX11_takes_192 : decode cX11_takes 192 = .ok (.goto (-30), 3) := by decide +kernel
theorem dX11_takes_195 : decode cX11_takes 195 = .ok (.aload_n 0, 1) := by decide +kernel
theorem dX11_takes_196 : decode cX11_takes 196 = .ok (.getfield 32, 3) := by decide +kernel
theorem dX11_takes_199 : decode cX11_takes 199 = .ok (.iload 4, 2) := by decide +kernel
theorem dX11_takes_201 : decode cX11_takes 201 = .ok (.iaload, 1) := by decide +kernel
theorem dX11_takes_202 : decode cX11_takes 202 = .ok (.istore 7, 2) := by decide +kernel
theorem dX11_takes_204 : decode cX11_takes 204 = .ok (.aload_n 0, 1) := by decide +kernel
theorem dX11_takes_205 : decode cX11_takes 205 = .ok (.aload_n 0, 1) := by decide +kernel
theorem dX11_takes_206 : decode cX11_takes 206 = .ok (.getfield 23, 3) := by decide +kernel
theorem dX11_takes_209 : decode cX11_takes 209 = .ok (.iload 7, 2) := by decide +kernel
theorem dX11_takes_211 : decode cX11_takes 211 = .ok (.iaload, 1) := by decide +kernel
theorem dX11_takes_212 : decode cX11_takes 212 = .ok (.aload_n 0, 1) := by decide +kernel
theorem dX11_takes_213 : decode cX11_takes 213 = .ok (.aload_n 0, 1) := by decide +kernel
theorem dX11_takes_214 : decode cX11_takes 214 = .ok (.getfield 26, 3) := by decide +kernel
theorem dX11_takes_217 : decode cX11_takes 217 = .ok (.iload 7, 2) := by decide +kernel
theorem dX11_takes_219 : decode cX11_takes 219 = .ok (.iaload, 1) := by decide +kernel
theorem dX11_takes_220 : decode cX11_takes 220 = .ok (.iload 6, 2) := by decide +kernel
theorem dX11_takes_222 : decode cX11_takes 222 = .ok (.invokevirtual 233, 3) := by decide +kernel
theorem dX11_takes_225 : decode cX11_takes 225 = .ok (.invokevirtual 227, 3) := by decide +kernel
theorem dX11_takes_228 : decode cX11_takes 228 = .ok (.ireturn, 1) := by decide +kernel
theorem dX11_withoutFirst_0 : decode cX11_withoutFirst 0 = .ok (.aload_n 0, 1) := by decide +kernel
theorem dX11_withoutFirst_1 : decode cX11_withoutFirst 1 = .ok (.aload_n 0, 1) := by decide +kernel
theorem dX11_withoutFirst_2 : decode cX11_withoutFirst 2 = .ok (.getfield 32, 3) := by decide +kernel
theorem dX11_withoutFirst_5 : decode cX11_withoutFirst 5 = .ok (.aload_n 0, 1) := by decide +kernel
theorem dX11_withoutFirst_6 : decode cX11_withoutFirst 6 = .ok (.getfield 42, 3) := by decide +kernel
theorem dX11_withoutFirst_9 : decode cX11_withoutFirst 9 = .ok (.iload_n 1, 1) := by decide +kernel
theorem dX11_withoutFirst_10 : decode cX11_withoutFirst 10 = .ok (.iaload, 1) := by decide +kernel
theorem dX11_withoutFirst_11 : decode cX11_withoutFirst 11 = .ok (.iaload, 1) := by decide +kernel
theorem dX11_withoutFirst_12 : decode cX11_withoutFirst 12 = .ok (.aload_n 0, 1) := by decide +kernel
theorem dX11_withoutFirst_13 : decode cX11_withoutFirst 13 = .ok (.getfield 32, 3) := by decide +kernel
theorem dX11_withoutFirst_16 : decode cX11_withoutFirst 16 = .ok (.iload_n 2, 1) := by decide +kernel
theorem dX11_withoutFirst_17 : decode cX11_withoutFirst 17 = .ok (.iaload, 1) := by decide +kernel
theorem dX11_withoutFirst_18 : decode cX11_withoutFirst 18 = .ok (.invokevirtual 201, 3) := by decide +kernel
theorem dX11_withoutFirst_21 : decode cX11_withoutFirst 21 = .ok (.ifCond .ne 34, 3) := by decide +kernel
theorem dX11_withoutFirst_24 : decode cX11_withoutFirst 24 = .ok (.aload_n 0, 1) := by decide +kernel
theorem dX11_withoutFirst_25 : decode cX11_withoutFirst 25 = .ok (.aload_n 0, 1) := by decide +kernel
theorem dX11_withoutFirst_26 : decode cX11_withoutFirst 26 = .ok (.getfield 32, 3) := by decide +kernel
theorem dX11_withoutFirst_29 : decode cX11_withoutFirst 29 = .ok (.iload_n 2, 1) := by decide +kernel
theorem dX11_withoutFirst_30 : decode cX11_withoutFirst 30 = .ok (.iaload, 1) := by decide +kernel
theorem dX11_withoutFirst_31 : decode cX11_withoutFirst 31 = .ok (.aload_n 0, 1) := by decide +kernel
theorem dX11_withoutFirst_32 : decode cX11_withoutFirst 32 = .ok (.getfield 32, 3) := by decide +kernel
theorem dX11_withoutFirst_35 : decode cX11_withoutFirst 35 = .ok (.aload_n 0, 1) := by decide +kernel
theorem dX11_withoutFirst_36 : decode cX11_withoutFirst 36 = .ok (.getfield 42, 3) := by decide +kernel
theorem dX11_withoutFirst_39 : decode cX11_withoutFirst 39 = .ok (.iload_n 1, 1) := by decide +kernel
theorem dX11_withoutFirst_40 : decode cX11_withoutFirst 40 = .ok (.iaload, 1) := by decide +kernel
theorem dX11_withoutFirst_41 : decode cX11_withoutFirst 41 = .ok (.iaload, 1) := by decide +kernel
theorem dX11_withoutFirst_42 : decode cX11_withoutFirst 42 = .ok (.invokevirtual 201, 3) := by decide +kernel
theorem dX11_withoutFirst_45 : decode cX11_withoutFirst 45 = .ok (.ifCond .ne 10, 3) := by decide +kernel
theorem dX11_withoutFirst_48 : decode cX11_withoutFirst 48 = .ok (.aload_n 0, 1) := by decide +kernel
theorem dX11_withoutFirst_49 : decode cX11_withoutFirst 49 = .ok (.getfield 45, 3) := by decide +kernel
theorem dX11_withoutFirst_52 : decode cX11_withoutFirst 52 = .ok (.iload_n 1, 1) := by decide +kernel
theorem dX11_withoutFirst_53 : decode cX11_withoutFirst 53 = .ok (.iaload, 1) := by decide +kernel
theorem dX11_withoutFirst_54 : decode cX11_withoutFirst 54 = .ok (.ireturn, 1) := by decide +kernel
theorem dX11_withoutFirst_55 : decode cX11_withoutFirst 55 = .ok (.aload_n 0, 1) := by decide +kernel
theorem dX11_withoutFirst_56 : decode cX11_withoutFirst 56 = .ok (.aload_n 0, 1) := by decide +kernel
theorem dX11_withoutFirst_57 : decode cX11_withoutFirst 57 = .ok (.getfield 42, 3) := by decide +kernel
theorem dX11_withoutFirst_60 : decode cX11_withoutFirst 60 = .ok (.iload_n 1, 1) := by decide +kernel
theorem dX11_withoutFirst_61 : decode cX11_withoutFirst 61 = .ok (.iaload, 1) := by decide +kernel
theorem dX11_withoutFirst_62 : decode cX11_withoutFirst 62 = .ok (.aload_n 0, 1) := by decide +kernel
theorem dX11_withoutFirst_63 : decode cX11_withoutFirst 63 = .ok (.aload_n 0, 1) := by decide +kernel
theorem dX11_withoutFirst_64 : decode cX11_withoutFirst 64 = .ok (.getfield 45, 3) := by decide +kernel
theorem dX11_withoutFirst_67 : decode cX11_withoutFirst 67 = .ok (.iload_n 1, 1) := by decide +kernel
theorem dX11_withoutFirst_68 : decode cX11_withoutFirst 68 = .ok (.iaload, 1) := by decide +kernel
theorem dX11_withoutFirst_69 : decode cX11_withoutFirst 69 = .ok (.iload_n 2, 1) := by decide +kernel
theorem dX11_withoutFirst_70 : decode cX11_withoutFirst 70 = .ok (.invokevirtual 230, 3) := by decide +kernel
theorem dX11_withoutFirst_73 : decode cX11_withoutFirst 73 = .ok (.invokevirtual 204, 3) := by decide +kernel
theorem dX11_withoutFirst_76 : decode cX11_withoutFirst 76 = .ok (.ireturn, 1) := by decide +kernel
theorem dX11_makesAll_0 : decode cX11_makesAll 0 = .ok (.aload_n 0, 1) := by decide +kernel
theorem dX11_makesAll_1 : decode cX11_makesAll 1 = .ok (.iconst 0, 1) := by decide +kernel
theorem dX11_makesAll_2 : decode cX11_makesAll 2 = .ok (.putfield 189, 3) := by decide +kernel
theorem dX11_makesAll_5 : decode cX11_makesAll 5 = .ok (.aload_n 0, 1) := by decide +kernel
theorem dX11_makesAll_6 : decode cX11_makesAll 6 = .ok (.iconst 0, 1) := by decide +kernel
theorem dX11_makesAll_7 : decode cX11_makesAll 7 = .ok (.putfield 192, 3) := by decide +kernel
theorem dX11_makesAll_10 : decode cX11_makesAll 10 = .ok (.aload_n 0, 1) := by decide +kernel
theorem dX11_makesAll_11 : decode cX11_makesAll 11 = .ok (.iconst 0, 1) := by decide +kernel
theorem dX11_makesAll_12 : decode cX11_makesAll 12 = .ok (.putfield 186, 3) := by decide +kernel
theorem dX11_makesAll_15 : decode cX11_makesAll 15 = .ok (.iconst 0, 1) := by decide +kernel
theorem dX11_makesAll_16 : decode cX11_makesAll 16 = .ok (.istore_n 3, 1) := by decide +kernel
theorem dX11_makesAll_17 : decode cX11_makesAll 17 = .ok (.iload_n 3, 1) := by decide +kernel
theorem dX11_makesAll_18 : decode cX11_makesAll 18 = .ok (.aload_n 0, 1) := by decide +kernel
theorem dX11_makesAll_19 : decode cX11_makesAll 19 = .ok (.getfield 9, 3) := by decide +kernel
theorem dX11_makesAll_22 : decode cX11_makesAll 22 = .ok (.iconst 2, 1) := by decide +kernel
theorem dX11_makesAll_23 : decode cX11_makesAll 23 = .ok (.iaload, 1) := by decide +kernel
theorem dX11_makesAll_24 : decode cX11_makesAll 24 = .ok (.if_icmp .ge 185, 3) := by decide +kernel
theorem dX11_makesAll_27 : decode cX11_makesAll 27 = .ok (.aload_n 0, 1) := by decide +kernel
theorem dX11_makesAll_28 : decode cX11_makesAll 28 = .ok (.iconst 0, 1) := by decide +kernel
theorem dX11_makesAll_29 : decode cX11_makesAll 29 = .ok (.putfield 198, 3) := by decide +kernel
theorem dX11_makesAll_32 : decode cX11_makesAll 32 = .ok (.aload_n 0, 1) := by decide +kernel
theorem dX11_makesAll_33 : decode cX11_makesAll 33 = .ok (.getfield 9, 3) := by decide +kernel
theorem dX11_makesAll_36 : decode cX11_makesAll 36 = .ok (.bipush 6, 2) := by decide +kernel
theorem dX11_makesAll_38 : decode cX11_makesAll 38 = .ok (.iload_n 3, 1) := by decide +kernel
theorem dX11_makesAll_39 : decode cX11_makesAll 39 = .ok (.iadd, 1) := by decide +kernel
theorem dX11_makesAll_40 : decode cX11_makesAll 40 = .ok (.iaload, 1) := by decide +kernel
theorem dX11_makesAll_41 : decode cX11_makesAll 41 = .ok (.ifCond .ne 7, 3) := by decide +kernel
theorem dX11_makesAll_44 : decode cX11_makesAll 44 = .ok (.iconst (-1), 1) := by decide +kernel
theorem dX11_makesAll_45 : decode cX11_makesAll 45 = .ok (.goto 17, 3) := by decide +kernel
theorem dX11_makesAll_48 : decode cX11_makesAll 48 = .ok (.aload_n 0, 1) := by decide +kernel
theorem dX11_makesAll_49 : decode cX11_makesAll 49 = .ok (.getfield 48, 3) := by decide +kernel
theorem dX11_makesAll_52 : decode cX11_makesAll 52 = .ok (.aload_n 0, 1) := by decide +kernel
theorem dX11_makesAll_53 : decode cX11_makesAll 53 = .ok (.getfield 9, 3) := by decide +kernel
theorem dX11_makesAll_56 : decode cX11_makesAll 56 = .ok (.bipush 36, 2) := by decide +kernel
theorem dX11_makesAll_58 : decode cX11_makesAll 58 = .ok (.iload_n 3, 1) := by decide +kernel
theorem dX11_makesAll_59 : decode cX11_makesAll 59 = .ok (.iadd, 1) := by decide +kernel
theorem dX11_makesAll_60 : decode cX11_makesAll 60 = .ok (.iaload, 1) := by decide +kernel
theorem dX11_makesAll_61 : decode cX11_makesAll 61 = .ok (.iaload, 1) := by decide +kernel
theorem dX11_makesAll_62 : decode cX11_makesAll 62 = .ok (.istore 4, 2) := by decide +kernel
theorem dX11_makesAll_64 : decode cX11_makesAll 64 = .ok (.aload_n 0, 1) := by decide +kernel
theorem dX11_makesAll_65 : decode cX11_makesAll 65 = .ok (.getfield 9, 3) := by decide +kernel
theorem dX11_makesAll_68 : decode cX11_makesAll 68 = .ok (.bipush 6, 2) := by decide +kernel
theorem dX11_makesAll_70 : decode cX11_makesAll 70 = .ok (.iload_n 3, 1) := by decide +kernel
theorem dX11_makesAll_71 : decode cX11_makesAll 71 = .ok (.iadd, 1) := by decide +kernel
theorem dX11_makesAll_72 : decode cX11_makesAll 72 = .ok (.iaload, 1) := by decide +kernel
theorem dX11_makesAll_73 : decode cX11_makesAll 73 = .ok (.tableswitch 113 1 3 #[27, 67, 97], 27) := by decide +kernel
theorem dX11_makesAll_100 : decode cX11_makesAll 100 = .ok (.aload_n 0, 1) := by decide +kernel
theorem dX11_makesAll_101 : decode cX11_makesAll 101 = .ok (.getfield 48, 3) := by decide +kernel
theorem dX11_makesAll_104 : decode cX11_makesAll 104 = .ok (.iload_n 3, 1) := by decide +kernel
theorem dX11_makesAll_105 : decode cX11_makesAll 105 = .ok (.iload_n 3, 1) := by decide +kernel
theorem dX11_makesAll_106 : decode cX11_makesAll 106 = .ok (.iload_n 2, 1) := by decide +kernel
theorem dX11_makesAll_107 : decode cX11_makesAll 107 = .ok (.if_icmp .ne 8, 3) := by decide +kernel
theorem dX11_makesAll_110 : decode cX11_makesAll 110 = .ok (.iload 4, 2) := by decide +kernel
theorem dX11_makesAll_112 : decode cX11_makesAll 112 = .ok (.goto 24, 3) := by decide +kernel
theorem dX11_makesAll_115 : decode cX11_makesAll 115 = .ok (.aload_n 0, 1) := by decide +kernel
theorem dX11_makesAll_116 : decode cX11_makesAll 116 = .ok (.iload_n 1, 1) := by decide +kernel
theorem dX11_makesAll_117 : decode cX11_makesAll 117 = .ok (.aload_n 0, 1) := by decide +kernel
theorem dX11_makesAll_118 : decode cX11_makesAll 118 = .ok (.aload_n 0, 1) := by decide +kernel
theorem dX11_makesAll_119 : decode cX11_makesAll 119 = .ok (.getfield 9, 3) := by decide +kernel
theorem dX11_makesAll_122 : decode cX11_makesAll 122 = .ok (.bipush 96, 2) := by decide +kernel
theorem dX11_makesAll_124 : decode cX11_makesAll 124 = .ok (.iload_n 3, 1) := by decide +kernel
theorem dX11_makesAll_125 : decode cX11_makesAll 125 = .ok (.iadd, 1) := by decide +kernel
theorem dX11_makesAll_126 : decode cX11_makesAll 126 = .ok (.iaload, 1) := by decide +kernel
theorem dX11_makesAll_127 : decode cX11_makesAll 127 = .ok (.iconst (-1), 1) := by decide +kernel
theorem dX11_makesAll_128 : decode cX11_makesAll 128 = .ok (.invokevirtual 227, 3) := by decide +kernel
theorem dX11_makesAll_131 : decode cX11_makesAll 131 = .ok (.iload 4, 2) := by decide +kernel
theorem dX11_makesAll_133 : decode cX11_makesAll 133 = .ok (.invokevirtual 236, 3) := by decide +kernel
theorem dX11_makesAll_136 : decode cX11_makesAll 136 = .ok (.iastore, 1) := by decide +kernel
theorem dX11_makesAll_137 : decode cX11_makesAll 137 = .ok (.goto 56, 3) := by decide +kernel
theorem dX11_makesAll_140 : decode cX11_makesAll 140 = .ok (.aload_n 0, 1) := by decide +kernel
theorem dX11_makesAll_141 : decode cX11_makesAll 141 = .ok (.getfield 48, 3) := by decide +kernel
theorem dX11_makesAll_144 : decode cX11_makesAll 144 = .ok (.iload_n 3, 1) := by decide +kernel
theorem dX11_makesAll_145 : decode cX11_makesAll 145 = .ok (.aload_n 0, 1) := by decide +kernel
theorem dX11_makesAll_146 : decode cX11_makesAll 146 = .ok (.iload_n 1, 1) := by decide +kernel
theorem dX11_makesAll_147 : decode cX11_makesAll 147 = .ok (.iload 4, 2) := by decide +kernel
theorem dX11_makesAll_149 : decode cX11_makesAll 149 = .ok (.aload_n 0, 1) := by decide +kernel
theorem dX11_makesAll_150 : decode cX11_makesAll 150 = .ok (.getfield 48, 3) := by decide +kernel
theorem dX11_makesAll_153 : decode cX11_makesAll 153 = .ok (.aload_n 0, 1) := by decide +kernel
theorem dX11_makesAll_154 : decode cX11_makesAll 154 = .ok (.getfield 9, 3) := by decide +kernel
theorem dX11_makesAll_157 : decode cX11_makesAll 157 = .ok (.bipush 66, 2) := by decide +kernel
theorem dX11_makesAll_159 : decode cX11_makesAll 159 = .ok (.iload_n 3, 1) := by decide +kernel
theorem dX11_makesAll_160 : decode cX11_makesAll 160 = .ok (.iadd, 1) := by decide +kernel
theorem dX11_makesAll_161 : decode cX11_makesAll 161 = .ok (.iaload, 1) := by decide +kernel
theorem dX11_makesAll_162 : decode cX11_makesAll 162 = .ok (.iaload, 1) := by decide +kernel
theorem dX11_makesAll_163 : decode cX11_makesAll 163 = .ok (.invokevirtual 236, 3) := by decide +kernel
theorem dX11_makesAll_166 : decode cX11_makesAll 166 = .ok (.iastore, 1) := by decide +kernel
theorem dX11_makesAll_167 : decode cX11_makesAll 167 = .ok (.goto 26, 3) := by decide +kernel
theorem dX11_makesAll_170 : decode cX11_makesAll 170 = .ok (.aload_n 0, 1) := by decide +kernel
theorem dX11_makesAll_171 : decode cX11_makesAll 171 = .ok (.getfield 48, 3) := by decide +kernel
theorem dX11_makesAll_174 : decode cX11_makesAll 174 = .ok (.iload_n 3, 1) := by decide +kernel
theorem dX11_makesAll_175 : decode cX11_makesAll 175 = .ok (.aload_n 0, 1) := by decide +kernel
theorem dX11_makesAll_176 : decode cX11_makesAll 176 = .ok (.iload_n 1, 1) := by decide +kernel
theorem dX11_makesAll_177 : decode cX11_makesAll 177 = .ok (.iload 4, 2) := by decide +kernel
theorem dX11_makesAll_179 : decode cX11_makesAll 179 = .ok (.invokevirtual 239, 3) := by decide +kernel
theorem dX11_makesAll_182 : decode cX11_makesAll 182 = .ok (.iastore, 1) := by decide +kernel
theorem dX11_makesAll_183 : decode cX11_makesAll 183 = .ok (.goto 10, 3) := by decide +kernel
theorem dX11_makesAll_186 : decode cX11_makesAll 186 = .ok (.aload_n 0, 1) := by decide +kernel
theorem dX11_makesAll_187 : decode cX11_makesAll 187 = .ok (.getfield 48, 3) := by decide +kernel
theorem dX11_makesAll_190 : decode cX11_makesAll 190 = .ok (.iload_n 3, 1) := by decide +kernel
theorem dX11_makesAll_191 : decode cX11_makesAll 191 = .ok (.iconst (-1), 1) := by decide +kernel
theorem dX11_makesAll_192 : decode cX11_makesAll 192 = .ok (.iastore, 1) := by decide +kernel
theorem dX11_makesAll_193 : decode cX11_makesAll 193 = .ok (.aload_n 0, 1) := by decide +kernel
theorem dX11_makesAll_194 : decode cX11_makesAll 194 = .ok (.getfield 51, 3) := by decide +kernel
theorem dX11_makesAll_197 : decode cX11_makesAll 197 = .ok (.iload_n 3, 1) := by decide +kernel
theorem dX11_makesAll_198 : decode cX11_makesAll 198 = .ok (.aload_n 0, 1) := by decide +kernel
theorem dX11_makesAll_199 : decode cX11_makesAll 199 = .ok (.getfield 198, 3) := by decide +kernel
theorem dX11_makesAll_202 : decode cX11_makesAll 202 = .ok (.iastore, 1) := by decide +kernel
theorem dX11_makesAll_203 : decode cX11_makesAll 203 = .ok (.iinc 3 1, 3) := by decide +kernel
theorem dX11_makesAll_206 : decode cX11_makesAll 206 = .ok (.goto (-189), 3) := by decide +kernel
theorem dX11_makesAll_209 : decode cX11_makesAll 209 = .ok (.return_, 1) := by decide +kernel
theorem dX11_heapOf_0 : decode cX11_heapOf 0 = .ok (.aload_n 0, 1) := by decide +kernel
theorem dX11_heapOf_1 : decode cX11_heapOf 1 = .ok (.aload_n 0, 1) := by decide +kernel
theorem dX11_heapOf_2 : decode cX11_heapOf 2 = .ok (.getfield 9, 3) := by decide +kernel
theorem dX11_heapOf_5 : decode cX11_heapOf 5 = .ok (.iconst 0, 1) := by decide +kernel
theorem dX11_heapOf_6 : decode cX11_heapOf 6 = .ok (.iaload, 1) := by decide +kernel
theorem dX11_heapOf_7 : decode cX11_heapOf 7 = .ok (.iconst (-1), 1) := by decide +kernel
theorem dX11_heapOf_8 : decode cX11_heapOf 8 = .ok (.invokevirtual 179, 3) := by decide +kernel
theorem dX11_heapOf_11 : decode cX11_heapOf 11 = .ok (.aload_n 0, 1) := by decide +kernel
theorem dX11_heapOf_12 : decode cX11_heapOf 12 = .ok (.getfield 48, 3) := by decide +kernel
theorem dX11_heapOf_15 : decode cX11_heapOf 15 = .ok (.iload_n 1, 1) := by decide +kernel
theorem dX11_heapOf_16 : decode cX11_heapOf 16 = .ok (.iaload, 1) := by decide +kernel
theorem dX11_heapOf_17 : decode cX11_heapOf 17 = .ok (.ireturn, 1) := by decide +kernel
theorem dX11_countsHeap_0 : decode cX11_countsHeap 0 = .ok (.iload_n 1, 1) := by decide +kernel
theorem dX11_countsHeap_1 : decode cX11_countsHeap 1 = .ok (.ifCond .ge 5, 3) := by decide +kernel
theorem dX11_countsHeap_4 : decode cX11_countsHeap 4 = .ok (.iconst 0, 1) := by decide +kernel
theorem dX11_countsHeap_5 : decode cX11_countsHeap 5 = .ok (.ireturn, 1) := by decide +kernel
theorem dX11_countsHeap_6 : decode cX11_countsHeap 6 = .ok (.aload_n 0, 1) := by decide +kernel
theorem dX11_countsHeap_7 : decode cX11_countsHeap 7 = .ok (.getfield 54, 3) := by decide +kernel
theorem dX11_countsHeap_10 : decode cX11_countsHeap 10 = .ok (.aload_n 0, 1) := by decide +kernel
theorem dX11_countsHeap_11 : decode cX11_countsHeap 11 = .ok (.getfield 23, 3) := by decide +kernel
theorem dX11_countsHeap_14 : decode cX11_countsHeap 14 = .ok (.iload_n 1, 1) := by decide +kernel
theorem dX11_countsHeap_15 : decode cX11_countsHeap 15 = .ok (.iaload, 1) := by decide +kernel
theorem dX11_countsHeap_16 : decode cX11_countsHeap 16 = .ok (.dup2, 1) := by decide +kernel
theorem dX11_countsHeap_17 : decode cX11_countsHeap 17 = .ok (.iaload, 1) := by decide +kernel
theorem dX11_countsHeap_18 : decode cX11_countsHeap 18 = .ok (.iconst 1, 1) := by decide +kernel
theorem dX11_countsHeap_19 : decode cX11_countsHeap 19 = .ok (.iadd, 1) := by decide +kernel
theorem dX11_countsHeap_20 : decode cX11_countsHeap 20 = .ok (.iastore, 1) := by decide +kernel
theorem dX11_countsHeap_21 : decode cX11_countsHeap 21 = .ok (.iconst 1, 1) := by decide +kernel
theorem dX11_countsHeap_22 : decode cX11_countsHeap 22 = .ok (.istore_n 2, 1) := by decide +kernel
theorem dX11_countsHeap_23 : decode cX11_countsHeap 23 = .ok (.aload_n 0, 1) := by decide +kernel
theorem dX11_countsHeap_24 : decode cX11_countsHeap 24 = .ok (.getfield 26, 3) := by decide +kernel
theorem dX11_countsHeap_27 : decode cX11_countsHeap 27 = .ok (.iload_n 1, 1) := by decide +kernel
theorem dX11_countsHeap_28 : decode cX11_countsHeap 28 = .ok (.iaload, 1) := by decide +kernel
theorem dX11_countsHeap_29 : decode cX11_countsHeap 29 = .ok (.istore_n 3, 1) := by decide +kernel
theorem dX11_countsHeap_30 : decode cX11_countsHeap 30 = .ok (.iload_n 3, 1) := by decide +kernel
theorem dX11_countsHeap_31 : decode cX11_countsHeap 31 = .ok (.ifCond .lt 26, 3) := by decide +kernel
theorem dX11_countsHeap_34 : decode cX11_countsHeap 34 = .ok (.iload_n 2, 1) := by decide +kernel
theorem dX11_countsHeap_35 : decode cX11_countsHeap 35 = .ok (.aload_n 0, 1) := by decide +kernel
theorem dX11_countsHeap_36 : decode cX11_countsHeap 36 = .ok (.aload_n 0, 1) := by decide +kernel
theorem dX11_countsHeap_37 : decode cX11_countsHeap 37 = .ok (.getfield 42, 3) := by decide +kernel
theorem dX11_countsHeap_40 : decode cX11_countsHeap 40 = .ok (.iload_n 3, 1) := by decide +kernel
theorem dX11_countsHeap_41 : decode cX11_countsHeap 41 = .ok (.iaload, 1) := by decide +kernel
theorem dX11_countsHeap_42 : decode cX11_countsHeap 42 = .ok (.invokevirtual 242, 3) := by decide +kernel
theorem dX11_countsHeap_45 : decode cX11_countsHeap 45 = .ok (.iadd, 1) := by decide +kernel
theorem dX11_countsHeap_46 : decode cX11_countsHeap 46 = .ok (.istore_n 2, 1) := by decide +kernel
theorem dX11_countsHeap_47 : decode cX11_countsHeap 47 = .ok (.aload_n 0, 1) := by decide +kernel
theorem dX11_countsHeap_48 : decode cX11_countsHeap 48 = .ok (.getfield 45, 3) := by decide +kernel
theorem dX11_countsHeap_51 : decode cX11_countsHeap 51 = .ok (.iload_n 3, 1) := by decide +kernel
theorem dX11_countsHeap_52 : decode cX11_countsHeap 52 = .ok (.iaload, 1) := by decide +kernel
theorem dX11_countsHeap_53 : decode cX11_countsHeap 53 = .ok (.istore_n 3, 1) := by decide +kernel
theorem dX11_countsHeap_54 : decode cX11_countsHeap 54 = .ok (.goto (-24), 3) := by decide +kernel
theorem dX11_countsHeap_57 : decode cX11_countsHeap 57 = .ok (.iload_n 2, 1) := by decide +kernel
theorem dX11_countsHeap_58 : decode cX11_countsHeap 58 = .ok (.ireturn, 1) := by decide +kernel
theorem dX11_countsTree_0 : decode cX11_countsTree 0 = .ok (.aload_n 0, 1) := by decide +kernel
theorem dX11_countsTree_1 : decode cX11_countsTree 1 = .ok (.aload_n 0, 1) := by decide +kernel
theorem dX11_countsTree_2 : decode cX11_countsTree 2 = .ok (.getfield 32, 3) := by decide +kernel
theorem dX11_countsTree_5 : decode cX11_countsTree 5 = .ok (.iload_n 1, 1) := by decide +kernel
theorem dX11_countsTree_6 : decode cX11_countsTree 6 = .ok (.iaload, 1) := by decide +kernel
theorem dX11_countsTree_7 : decode cX11_countsTree 7 = .ok (.invokevirtual 245, 3) := by decide +kernel
theorem dX11_countsTree_10 : decode cX11_countsTree 10 = .ok (.istore_n 2, 1) := by decide +kernel
theorem dX11_countsTree_11 : decode cX11_countsTree 11 = .ok (.aload_n 0, 1) := by decide +kernel
theorem dX11_countsTree_12 : decode cX11_countsTree 12 = .ok (.getfield 35, 3) := by decide +kernel
theorem dX11_countsTree_15 : decode cX11_countsTree 15 = .ok (.iload_n 1, 1) := by decide +kernel
theorem dX11_countsTree_16 : decode cX11_countsTree 16 = .ok (.iaload, 1) := by decide +kernel
theorem dX11_countsTree_17 : decode cX11_countsTree 17 = .ok (.istore_n 3, 1) := by decide +kernel
theorem dX11_countsTree_18 : decode cX11_countsTree 18 = .ok (.iload_n 3, 1) := by decide +kernel
theorem dX11_countsTree_19 : decode cX11_countsTree 19 = .ok (.ifCond .lt 26, 3) := by decide +kernel
theorem dX11_countsTree_22 : decode cX11_countsTree 22 = .ok (.iload_n 2, 1) := by decide +kernel
theorem dX11_countsTree_23 : decode cX11_countsTree 23 = .ok (.aload_n 0, 1) := by decide +kernel
theorem dX11_countsTree_24 : decode cX11_countsTree 24 = .ok (.aload_n 0, 1) := by decide +kernel
theorem dX11_countsTree_25 : decode cX11_countsTree 25 = .ok (.getfield 42, 3) := by decide +kernel
theorem dX11_countsTree_28 : decode cX11_countsTree 28 = .ok (.iload_n 3, 1) := by decide +kernel
theorem dX11_countsTree_29 : decode cX11_countsTree 29 = .ok (.iaload, 1) := by decide +kernel
theorem dX11_countsTree_30 : decode cX11_countsTree 30 = .ok (.invokevirtual 245, 3) := by decide +kernel
theorem dX11_countsTree_33 : decode cX11_countsTree 33 = .ok (.iadd, 1) := by decide +kernel
theorem dX11_countsTree_34 : decode cX11_countsTree 34 = .ok (.istore_n 2, 1) := by decide +kernel
theorem dX11_countsTree_35 : decode cX11_countsTree 35 = .ok (.aload_n 0, 1) := by decide +kernel
theorem dX11_countsTree_36 : decode cX11_countsTree 36 = .ok (.getfield 45, 3) := by decide +kernel
theorem dX11_countsTree_39 : decode cX11_countsTree 39 = .ok (.iload_n 3, 1) := by decide +kernel
theorem dX11_countsTree_40 : decode cX11_countsTree 40 = .ok (.iaload, 1) := by decide +kernel
theorem dX11_countsTree_41 : decode cX11_countsTree 41 = .ok (.istore_n 3, 1) := by decide +kernel
theorem dX11_countsTree_42 : decode cX11_countsTree 42 = .ok (.goto (-24), 3) := by decide +kernel
theorem dX11_countsTree_45 : decode cX11_countsTree 45 = .ok (.aload_n 0, 1) := by decide +kernel
theorem dX11_countsTree_46 : decode cX11_countsTree 46 = .ok (.getfield 38, 3) := by decide +kernel
theorem dX11_countsTree_49 : decode cX11_countsTree 49 = .ok (.iload_n 1, 1) := by decide +kernel
theorem dX11_countsTree_50 : decode cX11_countsTree 50 = .ok (.iaload, 1) := by decide +kernel
theorem dX11_countsTree_51 : decode cX11_countsTree 51 = .ok (.istore_n 3, 1) := by decide +kernel
theorem dX11_countsTree_52 : decode cX11_countsTree 52 = .ok (.iload_n 3, 1) := by decide +kernel
theorem dX11_countsTree_53 : decode cX11_countsTree 53 = .ok (.ifCond .lt 26, 3) := by decide +kernel
theorem dX11_countsTree_56 : decode cX11_countsTree 56 = .ok (.iload_n 2, 1) := by decide +kernel
theorem dX11_countsTree_57 : decode cX11_countsTree 57 = .ok (.aload_n 0, 1) := by decide +kernel
theorem dX11_countsTree_58 : decode cX11_countsTree 58 = .ok (.aload_n 0, 1) := by decide +kernel
theorem dX11_countsTree_59 : decode cX11_countsTree 59 = .ok (.getfield 42, 3) := by decide +kernel
theorem dX11_countsTree_62 : decode cX11_countsTree 62 = .ok (.iload_n 3, 1) := by decide +kernel
theorem dX11_countsTree_63 : decode cX11_countsTree 63 = .ok (.iaload, 1) := by decide +kernel
theorem dX11_countsTree_64 : decode cX11_countsTree 64 = .ok (.invokevirtual 242, 3) := by decide +kernel
theorem dX11_countsTree_67 : decode cX11_countsTree 67 = .ok (.iadd, 1) := by decide +kernel
theorem dX11_countsTree_68 : decode cX11_countsTree 68 = .ok (.istore_n 2, 1) := by decide +kernel
theorem dX11_countsTree_69 : decode cX11_countsTree 69 = .ok (.aload_n 0, 1) := by decide +kernel
theorem dX11_countsTree_70 : decode cX11_countsTree 70 = .ok (.getfield 45, 3) := by decide +kernel
theorem dX11_countsTree_73 : decode cX11_countsTree 73 = .ok (.iload_n 3, 1) := by decide +kernel
theorem dX11_countsTree_74 : decode cX11_countsTree 74 = .ok (.iaload, 1) := by decide +kernel
theorem dX11_countsTree_75 : decode cX11_countsTree 75 = .ok (.istore_n 3, 1) := by decide +kernel
theorem dX11_countsTree_76 : decode cX11_countsTree 76 = .ok (.goto (-24), 3) := by decide +kernel
theorem dX11_countsTree_79 : decode cX11_countsTree 79 = .ok (.iload_n 2, 1) := by decide +kernel
theorem dX11_countsTree_80 : decode cX11_countsTree 80 = .ok (.ireturn, 1) := by decide +kernel
theorem dX11_counts_0 : decode cX11_counts 0 = .ok (.iconst 0, 1) := by decide +kernel
theorem dX11_counts_1 : decode cX11_counts 1 = .ok (.istore_n 2, 1) := by decide +kernel
theorem dX11_counts_2 : decode cX11_counts 2 = .ok (.iload_n 2, 1) := by decide +kernel
theorem dX11_counts_3 : decode cX11_counts 3 = .ok (.bipush 30, 2) := by decide +kernel
theorem dX11_counts_5 : decode cX11_counts 5 = .ok (.if_icmp .ge 16, 3) := by decide +kernel
theorem dX11_counts_8 : decode cX11_counts 8 = .ok (.aload_n 0, 1) := by decide +kernel
theorem dX11_counts_9 : decode cX11_counts 9 = .ok (.getfield 54, 3) := by decide +kernel
theorem dX11_counts_12 : decode cX11_counts 12 = .ok (.iload_n 2, 1) := by decide +kernel
theorem dX11_counts_13 : decode cX11_counts 13 = .ok (.iconst 0, 1) := by decide +kernel
theorem dX11_counts_14 : decode cX11_counts 14 = .ok (.iastore, 1) := by decide +kernel
theorem dX11_counts_15 : decode cX11_counts 15 = .ok (.iinc 2 1, 3) := by decide +kernel
theorem dX11_counts_18 : decode cX11_counts 18 = .ok (.goto (-16), 3) := by decide +kernel
theorem dX11_counts_21 : decode cX11_counts 21 = .ok (.aload_n 0, 1) := by decide +kernel
theorem dX11_counts_22 : decode cX11_counts 22 = .ok (.iload_n 1, 1) := by decide +kernel
theorem dX11_counts_23 : decode cX11_counts 23 = .ok (.invokevirtual 245, 3) := by decide +kernel
theorem dX11_counts_26 : decode cX11_counts 26 = .ok (.ireturn, 1) := by decide +kernel
theorem dX11_ordered_0 : decode cX11_ordered 0 = .ok (.aload_n 0, 1) := by decide +kernel
theorem dX11_ordered_1 : decode cX11_ordered 1 = .ok (.iload_n 1, 1) := by decide +kernel
theorem dX11_ordered_2 : decode cX11_ordered 2 = .ok (.invokevirtual 248, 3) := by decide +kernel
theorem dX11_ordered_5 : decode cX11_ordered 5 = .ok (.pop, 1) := by decide +kernel
theorem dX11_ordered_6 : decode cX11_ordered 6 = .ok (.iconst 0, 1) := by decide +kernel
theorem dX11_ordered_7 : decode cX11_ordered 7 = .ok (.istore_n 2, 1) := by decide +kernel
theorem dX11_ordered_8 : decode cX11_ordered 8 = .ok (.iconst 1, 1) := by decide +kernel
theorem dX11_ordered_9 : decode cX11_ordered 9 = .ok (.istore_n 3, 1) := by decide +kernel
theorem dX11_ordered_10 : decode cX11_ordered 10 = .ok (.iload_n 3, 1) := by decide +kernel
theorem dX11_ordered_11 : decode cX11_ordered 11 = .ok (.ifCond .eq 123, 3) := by decide +kernel
theorem dX11_ordered_14 : decode cX11_ordered 14 = .ok (.iconst (-1), 1) := by decide +kernel
theorem dX11_ordered_15 : decode cX11_ordered 15 = .ok (.istore 4, 2) := by decide +kernel
theorem dX11_ordered_17 : decode cX11_ordered 17 = .ok (.iconst 0, 1) := by decide +kernel
theorem dX11_ordered_18 : decode cX11_ordered 18 = .ok (.istore 5, 2) := by decide +kernel
theorem dX11_ordered_20 : decode cX11_ordered 20 = .ok (.iload 5, 2) := by decide +kernel
theorem dX11_ordered_22 : decode cX11_ordered 22 = .ok (.aload_n 0, 1) := by decide +kernel
theorem dX11_ordered_23 : decode cX11_ordered 23 = .ok (.getfield 9, 3) := by decide +kernel
theorem dX11_ordered_26 : decode cX11_ordered 26 = .ok (.iconst 3, 1) := by decide +kernel
theorem dX11_ordered_27 : decode cX11_ordered 27 = .ok (.iaload, 1) := by decide +kernel
theorem dX11_ordered_28 : decode cX11_ordered 28 = .ok (.if_icmp .ge 44, 3) := by decide +kernel
theorem dX11_ordered_31 : decode cX11_ordered 31 = .ok (.aload_n 0, 1) := by decide +kernel
theorem dX11_ordered_32 : decode cX11_ordered 32 = .ok (.getfield 54, 3) := by decide +kernel
theorem dX11_ordered_35 : decode cX11_ordered 35 = .ok (.iload 5, 2) := by decide +kernel
theorem dX11_ordered_37 : decode cX11_ordered 37 = .ok (.iaload, 1) := by decide +kernel
theorem dX11_ordered_38 : decode cX11_ordered 38 = .ok (.ifCond .le 24, 3) := by decide +kernel
theorem dX11_ordered_41 : decode cX11_ordered 41 = .ok (.iload 4, 2) := by decide +kernel
theorem dX11_ordered_43 : decode cX11_ordered 43 = .ok (.ifCond .lt 14, 3) := by decide +kernel
theorem dX11_ordered_46 : decode cX11_ordered 46 = .ok (.aload_n 0, 1) := by decide +kernel
theorem dX11_ordered_47 : decode cX11_ordered 47 = .ok (.iload 5, 2) := by decide +kernel
theorem dX11_ordered_49 : decode cX11_ordered 49 = .ok (.iload 4, 2) := by decide +kernel
theorem dX11_ordered_51 : decode cX11_ordered 51 = .ok (.invokevirtual 195, 3) := by decide +kernel
theorem dX11_ordered_54 : decode cX11_ordered 54 = .ok (.ifCond .eq 8, 3) := by decide +kernel
theorem dX11_ordered_57 : decode cX11_ordered 57 = .ok (.iload 5, 2) := by decide +kernel
theorem dX11_ordered_59 : decode cX11_ordered 59 = .ok (.goto 5, 3) := by decide +kernel
theorem dX11_ordered_62 : decode cX11_ordered 62 = .ok (.iload 4, 2) := by decide +kernel
theorem dX11_ordered_64 : decode cX11_ordered 64 = .ok (.istore 4, 2) := by decide +kernel
theorem dX11_ordered_66 : decode cX11_ordered 66 = .ok (.iinc 5 1, 3) := by decide +kernel
theorem dX11_ordered_69 : decode cX11_ordered 69 = .ok (.goto (-49), 3) := by decide +kernel
theorem dX11_ordered_72 : decode cX11_ordered 72 = .ok (.iload 4, 2) := by decide +kernel
theorem dX11_ordered_74 : decode cX11_ordered 74 = .ok (.ifCond .lt 7, 3) := by decide +kernel
theorem dX11_ordered_77 : decode cX11_ordered 77 = .ok (.iconst 1, 1) := by decide +kernel
theorem dX11_ordered_78 : decode cX11_ordered 78 = .ok (.goto 4, 3) := by decide +kernel
theorem dX11_ordered_81 : decode cX11_ordered 81 = .ok (.iconst 0, 1) := by decide +kernel
theorem dX11_ordered_82 : decode cX11_ordered 82 = .ok (.istore_n 3, 1) := by decide +kernel
theorem dX11_ordered_83 : decode cX11_ordered 83 = .ok (.iconst 0, 1) := by decide +kernel
theorem dX11_ordered_84 : decode cX11_ordered 84 = .ok (.istore 5, 2) := by decide +kernel
theorem dX11_ordered_86 : decode cX11_ordered 86 = .ok (.iload_n 3, 1) := by decide +kernel
theorem dX11_ordered_87 : decode cX11_ordered 87 = .ok (.ifCond .eq 32, 3) := by decide +kernel
theorem dX11_ordered_90 : decode cX11_ordered 90 = .ok (.iload 5, 2) := by decide +kernel
theorem dX11_ordered_92 : decode cX11_ordered 92 = .ok (.aload_n 0, 1) := by decide +kernel
theorem dX11_ordered_93 : decode cX11_ordered 93 = .ok (.getfield 54, 3) := by decide +kernel
theorem dX11_ordered_96 : decode cX11_ordered 96 = .ok (.iload 4, 2) := by decide +kernel
theorem dX11_ordered_98 : decode cX11_ordered 98 = .ok (.iaload, 1) := by decide +kernel
theorem dX11_ordered_99 : decode cX11_ordered 99 = .ok (.if_icmp .ge 20, 3) := by decide +kernel
theorem dX11_ordered_102 : decode cX11_ordered 102 = .ok (.aload_n 0, 1) := by decide +kernel
theorem dX11_ordered_103 : decode cX11_ordered 103 = .ok (.getfield 57, 3) := by decide +kernel
theorem dX11_ordered_106 : decode cX11_ordered 106 = .ok (.iload_n 2, 1) := by decide +kernel
theorem dX11_ordered_107 : decode cX11_ordered 107 = .ok (.iload 4, 2) := by decide +kernel
theorem dX11_ordered_109 : decode cX11_ordered 109 = .ok (.iastore, 1) := by decide +kernel
theorem dX11_ordered_110 : decode cX11_ordered 110 = .ok (.iinc 2 1, 3) := by decide +kernel
theorem dX11_ordered_113 : decode cX11_ordered 113 = .ok (.iinc 5 1, 3) := by decide +kernel
theorem dX11_ordered_116 : decode cX11_ordered 116 = .ok (.goto (-30), 3) := by decide +kernel
theorem dX11_ordered_119 : decode cX11_ordered 119 = .ok (.iload_n 3, 1) := by decide +kernel
theorem dX11_ordered_120 : decode cX11_ordered 120 = .ok (.ifCond .eq 11, 3) := by decide +kernel
theorem dX11_ordered_123 : decode cX11_ordered 123 = .ok (.aload_n 0, 1) := by decide +kernel
theorem dX11_ordered_124 : decode cX11_ordered 124 = .ok (.getfield 54, 3) := by decide +kernel
theorem dX11_ordered_127 : decode cX11_ordered 127 = .ok (.iload 4, 2) := by decide +kernel
theorem dX11_ordered_129 : decode cX11_ordered 129 = .ok (.iconst 0, 1) := by decide +kernel
theorem dX11_ordered_130 : decode cX11_ordered 130 = .ok (.iastore, 1) := by decide +kernel
theorem dX11_ordered_131 : decode cX11_ordered 131 = .ok (.goto (-121), 3) := by decide +kernel
theorem dX11_ordered_134 : decode cX11_ordered 134 = .ok (.iload_n 2, 1) := by decide +kernel
theorem dX11_ordered_135 : decode cX11_ordered 135 = .ok (.ireturn, 1) := by decide +kernel
theorem dX11_size_0 : decode cX11_size 0 = .ok (.aload_n 0, 1) := by decide +kernel
theorem dX11_size_1 : decode cX11_size 1 = .ok (.iload_n 1, 1) := by decide +kernel
theorem dX11_size_2 : decode cX11_size 2 = .ok (.invokevirtual 171, 3) := by decide +kernel
theorem dX11_size_5 : decode cX11_size 5 = .ok (.ifCond .eq 15, 3) := by decide +kernel
theorem dX11_size_8 : decode cX11_size 8 = .ok (.aload_n 0, 1) := by decide +kernel
theorem dX11_size_9 : decode cX11_size 9 = .ok (.aload_n 0, 1) := by decide +kernel
theorem dX11_size_10 : decode cX11_size 10 = .ok (.iload_n 1, 1) := by decide +kernel
theorem dX11_size_11 : decode cX11_size 11 = .ok (.invokevirtual 251, 3) := by decide +kernel
theorem dX11_size_14 : decode cX11_size 14 = .ok (.invokevirtual 248, 3) := by decide +kernel
theorem dX11_size_17 : decode cX11_size 17 = .ok (.goto 5, 3) := by decide +kernel
theorem dX11_size_20 : decode cX11_size 20 = .ok (.bipush (-2), 2) := by decide +kernel
theorem dX11_size_22 : decode cX11_size 22 = .ok (.ireturn, 1) := by decide +kernel
theorem dX11_leastOf_0 : decode cX11_leastOf 0 = .ok (.iload_n 1, 1) := by decide +kernel
theorem dX11_leastOf_1 : decode cX11_leastOf 1 = .ok (.ifCond .ge 7, 3) := by decide +kernel
theorem dX11_leastOf_4 : decode cX11_leastOf 4 = .ok (.iconst (-1), 1) := by decide +kernel
theorem dX11_leastOf_5 : decode cX11_leastOf 5 = .ok (.goto 9, 3) := by decide +kernel
theorem dX11_leastOf_8 : decode cX11_leastOf 8 = .ok (.aload_n 0, 1) := by decide +kernel
theorem dX11_leastOf_9 : decode cX11_leastOf 9 = .ok (.getfield 23, 3) := by decide +kernel
theorem dX11_leastOf_12 : decode cX11_leastOf 12 = .ok (.iload_n 1, 1) := by decide +kernel
theorem dX11_leastOf_13 : decode cX11_leastOf 13 = .ok (.iaload, 1) := by decide +kernel
theorem dX11_leastOf_14 : decode cX11_leastOf 14 = .ok (.ireturn, 1) := by decide +kernel
theorem dX11_least_0 : decode cX11_least 0 = .ok (.aload_n 0, 1) := by decide +kernel
theorem dX11_least_1 : decode cX11_least 1 = .ok (.iload_n 1, 1) := by decide +kernel
theorem dX11_least_2 : decode cX11_least 2 = .ok (.invokevirtual 171, 3) := by decide +kernel
theorem dX11_least_5 : decode cX11_least 5 = .ok (.ifCond .eq 15, 3) := by decide +kernel
theorem dX11_least_8 : decode cX11_least 8 = .ok (.aload_n 0, 1) := by decide +kernel
theorem dX11_least_9 : decode cX11_least 9 = .ok (.aload_n 0, 1) := by decide +kernel
theorem dX11_least_10 : decode cX11_least 10 = .ok (.iload_n 1, 1) := by decide +kernel
theorem dX11_least_11 : decode cX11_least 11 = .ok (.invokevirtual 251, 3) := by decide +kernel
theorem dX11_least_14 : decode cX11_least 14 = .ok (.invokevirtual 254, 3) := by decide +kernel
theorem dX11_least_17 : decode cX11_least 17 = .ok (.goto 5, 3) := by decide +kernel
theorem dX11_least_20 : decode cX11_least 20 = .ok (.bipush (-2), 2) := by decide +kernel
theorem dX11_least_22 : decode cX11_least 22 = .ok (.ireturn, 1) := by decide +kernel
theorem dX11_place_0 : decode cX11_place 0 = .ok (.aload_n 0, 1) := by decide +kernel
theorem dX11_place_1 : decode cX11_place 1 = .ok (.iload_n 1, 1) := by decide +kernel
theorem dX11_place_2 : decode cX11_place 2 = .ok (.invokevirtual 171, 3) := by decide +kernel
theorem dX11_place_5 : decode cX11_place 5 = .ok (.ifCond .eq 7, 3) := by decide +kernel
theorem dX11_place_8 : decode cX11_place 8 = .ok (.iload_n 2, 1) := by decide +kernel
theorem dX11_place_9 : decode cX11_place 9 = .ok (.ifCond .ge 6, 3) := by decide +kernel
theorem dX11_place_12 : decode cX11_place 12 = .ok (.bipush (-2), 2) := by decide +kernel
theorem dX11_place_14 : decode cX11_place 14 = .ok (.ireturn, 1) := by decide +kernel
theorem dX11_place_15 : decode cX11_place 15 = .ok (.iload_n 2, 1) := by decide +kernel
theorem dX11_place_16 : decode cX11_place 16 = .ok (.aload_n 0, 1) := by decide +kernel
theorem dX11_place_17 : decode cX11_place 17 = .ok (.aload_n 0, 1) := by decide +kernel
theorem dX11_place_18 : decode cX11_place 18 = .ok (.iload_n 1, 1) := by decide +kernel
theorem dX11_place_19 : decode cX11_place 19 = .ok (.invokevirtual 251, 3) := by decide +kernel
theorem dX11_place_22 : decode cX11_place 22 = .ok (.invokevirtual 257, 3) := by decide +kernel
theorem dX11_place_25 : decode cX11_place 25 = .ok (.if_icmp .ge 12, 3) := by decide +kernel
theorem dX11_place_28 : decode cX11_place 28 = .ok (.aload_n 0, 1) := by decide +kernel
theorem dX11_place_29 : decode cX11_place 29 = .ok (.getfield 57, 3) := by decide +kernel
theorem dX11_place_32 : decode cX11_place 32 = .ok (.iload_n 2, 1) := by decide +kernel
theorem dX11_place_33 : decode cX11_place 33 = .ok (.iaload, 1) := by decide +kernel
theorem dX11_place_34 : decode cX11_place 34 = .ok (.goto 4, 3) := by decide +kernel
theorem dX11_place_37 : decode cX11_place 37 = .ok (.iconst (-1), 1) := by decide +kernel
theorem dX11_place_38 : decode cX11_place 38 = .ok (.ireturn, 1) := by decide +kernel
theorem dX11_times_0 : decode cX11_times 0 = .ok (.aload_n 0, 1) := by decide +kernel
theorem dX11_times_1 : decode cX11_times 1 = .ok (.iload_n 1, 1) := by decide +kernel
theorem dX11_times_2 : decode cX11_times 2 = .ok (.invokevirtual 171, 3) := by decide +kernel
theorem dX11_times_5 : decode cX11_times 5 = .ok (.ifCond .eq 11, 3) := by decide +kernel
theorem dX11_times_8 : decode cX11_times 8 = .ok (.aload_n 0, 1) := by decide +kernel
theorem dX11_times_9 : decode cX11_times 9 = .ok (.iload_n 2, 1) := by decide +kernel
theorem dX11_times_10 : decode cX11_times 10 = .ok (.invokevirtual 183, 3) := by decide +kernel
theorem dX11_times_13 : decode cX11_times 13 = .ok (.ifCond .ne 6, 3) := by decide +kernel
theorem dX11_times_16 : decode cX11_times 16 = .ok (.bipush (-2), 2) := by decide +kernel
theorem dX11_times_18 : decode cX11_times 18 = .ok (.ireturn, 1) := by decide +kernel
theorem dX11_times_19 : decode cX11_times 19 = .ok (.aload_n 0, 1) := by decide +kernel
theorem dX11_times_20 : decode cX11_times 20 = .ok (.aload_n 0, 1) := by decide +kernel
theorem dX11_times_21 : decode cX11_times 21 = .ok (.iload_n 1, 1) := by decide +kernel
theorem dX11_times_22 : decode cX11_times 22 = .ok (.invokevirtual 251, 3) := by decide +kernel
theorem dX11_times_25 : decode cX11_times 25 = .ok (.invokevirtual 248, 3) := by decide +kernel
theorem dX11_times_28 : decode cX11_times 28 = .ok (.pop, 1) := by decide +kernel
theorem dX11_times_29 : decode cX11_times 29 = .ok (.aload_n 0, 1) := by decide +kernel
theorem dX11_times_30 : decode cX11_times 30 = .ok (.getfield 54, 3) := by decide +kernel
theorem dX11_times_33 : decode cX11_times 33 = .ok (.iload_n 2, 1) := by decide +kernel
theorem dX11_times_34 : decode cX11_times 34 = .ok (.iaload, 1) := by decide +kernel
theorem dX11_times_35 : decode cX11_times 35 = .ok (.ireturn, 1) := by decide +kernel
theorem dX11_queueOf_0 : decode cX11_queueOf 0 = .ok (.aload_n 0, 1) := by decide +kernel
theorem dX11_queueOf_1 : decode cX11_queueOf 1 = .ok (.iload_n 1, 1) := by decide +kernel
theorem dX11_queueOf_2 : decode cX11_queueOf 2 = .ok (.invokevirtual 251, 3) := by decide +kernel
theorem dX11_queueOf_5 : decode cX11_queueOf 5 = .ok (.istore_n 2, 1) := by decide +kernel
theorem dX11_queueOf_6 : decode cX11_queueOf 6 = .ok (.iload_n 2, 1) := by decide +kernel
theorem dX11_queueOf_7 : decode cX11_queueOf 7 = .ok (.ifCond .ge 7, 3) := by decide +kernel
theorem dX11_queueOf_10 : decode cX11_queueOf 10 = .ok (.iconst (-1), 1) := by decide +kernel
theorem dX11_queueOf_11 : decode cX11_queueOf 11 = .ok (.goto 9, 3) := by decide +kernel
theorem dX11_queueOf_14 : decode cX11_queueOf 14 = .ok (.aload_n 0, 1) := by decide +kernel
theorem dX11_queueOf_15 : decode cX11_queueOf 15 = .ok (.getfield 26, 3) := by decide +kernel
theorem dX11_queueOf_18 : decode cX11_queueOf 18 = .ok (.iload_n 2, 1) := by decide +kernel
theorem dX11_queueOf_19 : decode cX11_queueOf 19 = .ok (.iaload, 1) := by decide +kernel
theorem dX11_queueOf_20 : decode cX11_queueOf 20 = .ok (.ireturn, 1) := by decide +kernel
theorem dX11_trees_0 : decode cX11_trees 0 = .ok (.aload_n 0, 1) := by decide +kernel
theorem dX11_trees_1 : decode cX11_trees 1 = .ok (.iload_n 1, 1) := by decide +kernel
theorem dX11_trees_2 : decode cX11_trees 2 = .ok (.invokevirtual 171, 3) := by decide +kernel
theorem dX11_trees_5 : decode cX11_trees 5 = .ok (.ifCond .eq 15, 3) := by decide +kernel
theorem dX11_trees_8 : decode cX11_trees 8 = .ok (.aload_n 0, 1) := by decide +kernel
theorem dX11_trees_9 : decode cX11_trees 9 = .ok (.aload_n 0, 1) := by decide +kernel
theorem dX11_trees_10 : decode cX11_trees 10 = .ok (.iload_n 1, 1) := by decide +kernel
theorem dX11_trees_11 : decode cX11_trees 11 = .ok (.invokevirtual 260, 3) := by decide +kernel
theorem dX11_trees_14 : decode cX11_trees 14 = .ok (.invokevirtual 263, 3) := by decide +kernel
theorem dX11_trees_17 : decode cX11_trees 17 = .ok (.goto 5, 3) := by decide +kernel
theorem dX11_trees_20 : decode cX11_trees 20 = .ok (.bipush (-2), 2) := by decide +kernel
theorem dX11_trees_22 : decode cX11_trees 22 = .ok (.ireturn, 1) := by decide +kernel
theorem dX11_treeAt_0 : decode cX11_treeAt 0 = .ok (.aload_n 0, 1) := by decide +kernel
theorem dX11_treeAt_1 : decode cX11_treeAt 1 = .ok (.iload_n 1, 1) := by decide +kernel
theorem dX11_treeAt_2 : decode cX11_treeAt 2 = .ok (.invokevirtual 171, 3) := by decide +kernel
theorem dX11_treeAt_5 : decode cX11_treeAt 5 = .ok (.ifCond .eq 7, 3) := by decide +kernel
theorem dX11_treeAt_8 : decode cX11_treeAt 8 = .ok (.iload_n 2, 1) := by decide +kernel
theorem dX11_treeAt_9 : decode cX11_treeAt 9 = .ok (.ifCond .ge 6, 3) := by decide +kernel
theorem dX11_treeAt_12 : decode cX11_treeAt 12 = .ok (.bipush (-2), 2) := by decide +kernel
theorem dX11_treeAt_14 : decode cX11_treeAt 14 = .ok (.ireturn, 1) := by decide +kernel
theorem dX11_treeAt_15 : decode cX11_treeAt 15 = .ok (.aload_n 0, 1) := by decide +kernel
theorem dX11_treeAt_16 : decode cX11_treeAt 16 = .ok (.iload_n 1, 1) := by decide +kernel
theorem dX11_treeAt_17 : decode cX11_treeAt 17 = .ok (.invokevirtual 260, 3) := by decide +kernel
theorem dX11_treeAt_20 : decode cX11_treeAt 20 = .ok (.istore_n 3, 1) := by decide +kernel
theorem dX11_treeAt_21 : decode cX11_treeAt 21 = .ok (.iload_n 2, 1) := by decide +kernel
theorem dX11_treeAt_22 : decode cX11_treeAt 22 = .ok (.aload_n 0, 1) := by decide +kernel
theorem dX11_treeAt_23 : decode cX11_treeAt 23 = .ok (.iload_n 3, 1) := by decide +kernel
theorem dX11_treeAt_24 : decode cX11_treeAt 24 = .ok (.invokevirtual 263, 3) := by decide +kernel
theorem dX11_treeAt_27 : decode cX11_treeAt 27 = .ok (.if_icmp .ge 12, 3) := by decide +kernel
theorem dX11_treeAt_30 : decode cX11_treeAt 30 = .ok (.aload_n 0, 1) := by decide +kernel
theorem dX11_treeAt_31 : decode cX11_treeAt 31 = .ok (.iload_n 3, 1) := by decide +kernel
theorem dX11_treeAt_32 : decode cX11_treeAt 32 = .ok (.iload_n 2, 1) := by decide +kernel
theorem dX11_treeAt_33 : decode cX11_treeAt 33 = .ok (.invokevirtual 266, 3) := by decide +kernel
theorem dX11_treeAt_36 : decode cX11_treeAt 36 = .ok (.goto 4, 3) := by decide +kernel
theorem dX11_treeAt_39 : decode cX11_treeAt 39 = .ok (.iconst (-1), 1) := by decide +kernel
theorem dX11_treeAt_40 : decode cX11_treeAt 40 = .ok (.ireturn, 1) := by decide +kernel
theorem dX11_rank_0 : decode cX11_rank 0 = .ok (.aload_n 0, 1) := by decide +kernel
theorem dX11_rank_1 : decode cX11_rank 1 = .ok (.iload_n 1, 1) := by decide +kernel
theorem dX11_rank_2 : decode cX11_rank 2 = .ok (.iload_n 2, 1) := by decide +kernel
theorem dX11_rank_3 : decode cX11_rank 3 = .ok (.invokevirtual 269, 3) := by decide +kernel
theorem dX11_rank_6 : decode cX11_rank 6 = .ok (.istore_n 3, 1) := by decide +kernel
theorem dX11_rank_7 : decode cX11_rank 7 = .ok (.iload_n 3, 1) := by decide +kernel
theorem dX11_rank_8 : decode cX11_rank 8 = .ok (.ifCond .ge 7, 3) := by decide +kernel
theorem dX11_rank_11 : decode cX11_rank 11 = .ok (.iload_n 3, 1) := by decide +kernel
theorem dX11_rank_12 : decode cX11_rank 12 = .ok (.goto 9, 3) := by decide +kernel
theorem dX11_rank_15 : decode cX11_rank 15 = .ok (.aload_n 0, 1) := by decide +kernel
theorem dX11_rank_16 : decode cX11_rank 16 = .ok (.getfield 29, 3) := by decide +kernel
theorem dX11_rank_19 : decode cX11_rank 19 = .ok (.iload_n 3, 1) := by decide +kernel
theorem dX11_rank_20 : decode cX11_rank 20 = .ok (.iaload, 1) := by decide +kernel
theorem dX11_rank_21 : decode cX11_rank 21 = .ok (.ireturn, 1) := by decide +kernel
theorem dX11_holds_0 : decode cX11_holds 0 = .ok (.aload_n 0, 1) := by decide +kernel
theorem dX11_holds_1 : decode cX11_holds 1 = .ok (.iload_n 1, 1) := by decide +kernel
theorem dX11_holds_2 : decode cX11_holds 2 = .ok (.iload_n 2, 1) := by decide +kernel
theorem dX11_holds_3 : decode cX11_holds 3 = .ok (.invokevirtual 269, 3) := by decide +kernel
theorem dX11_holds_6 : decode cX11_holds 6 = .ok (.istore_n 3, 1) := by decide +kernel
theorem dX11_holds_7 : decode cX11_holds 7 = .ok (.iload_n 3, 1) := by decide +kernel
theorem dX11_holds_8 : decode cX11_holds 8 = .ok (.ifCond .ge 7, 3) := by decide +kernel
theorem dX11_holds_11 : decode cX11_holds 11 = .ok (.iload_n 3, 1) := by decide +kernel
theorem dX11_holds_12 : decode cX11_holds 12 = .ok (.goto 8, 3) := by decide +kernel
theorem dX11_holds_15 : decode cX11_holds 15 = .ok (.aload_n 0, 1) := by decide +kernel
theorem dX11_holds_16 : decode cX11_holds 16 = .ok (.iload_n 3, 1) := by decide +kernel
theorem dX11_holds_17 : decode cX11_holds 17 = .ok (.invokevirtual 242, 3) := by decide +kernel
theorem dX11_holds_20 : decode cX11_holds 20 = .ok (.ireturn, 1) := by decide +kernel
theorem dX11_singles_0 : decode cX11_singles 0 = .ok (.aload_n 0, 1) := by decide +kernel
theorem dX11_singles_1 : decode cX11_singles 1 = .ok (.iload_n 1, 1) := by decide +kernel
theorem dX11_singles_2 : decode cX11_singles 2 = .ok (.iload_n 2, 1) := by decide +kernel
theorem dX11_singles_3 : decode cX11_singles 3 = .ok (.invokevirtual 269, 3) := by decide +kernel
theorem dX11_singles_6 : decode cX11_singles 6 = .ok (.istore_n 3, 1) := by decide +kernel
theorem dX11_singles_7 : decode cX11_singles 7 = .ok (.iload_n 3, 1) := by decide +kernel
theorem dX11_singles_8 : decode cX11_singles 8 = .ok (.ifCond .ge 7, 3) := by decide +kernel
theorem dX11_singles_11 : decode cX11_singles 11 = .ok (.iload_n 3, 1) := by decide +kernel
theorem dX11_singles_12 : decode cX11_singles 12 = .ok (.goto 13, 3) := by decide +kernel
theorem dX11_singles_15 : decode cX11_singles 15 = .ok (.aload_n 0, 1) := by decide +kernel
theorem dX11_singles_16 : decode cX11_singles 16 = .ok (.aload_n 0, 1) := by decide +kernel
theorem dX11_singles_17 : decode cX11_singles 17 = .ok (.getfield 35, 3) := by decide +kernel
theorem dX11_singles_20 : decode cX11_singles 20 = .ok (.iload_n 3, 1) := by decide +kernel
theorem dX11_singles_21 : decode cX11_singles 21 = .ok (.iaload, 1) := by decide +kernel
theorem dX11_singles_22 : decode cX11_singles 22 = .ok (.invokevirtual 263, 3) := by decide +kernel
theorem dX11_singles_25 : decode cX11_singles 25 = .ok (.ireturn, 1) := by decide +kernel
theorem dX11_head_0 : decode cX11_head 0 = .ok (.aload_n 0, 1) := by decide +kernel
theorem dX11_head_1 : decode cX11_head 1 = .ok (.iload_n 1, 1) := by decide +kernel
theorem dX11_head_2 : decode cX11_head 2 = .ok (.iload_n 2, 1) := by decide +kernel
theorem dX11_head_3 : decode cX11_head 3 = .ok (.invokevirtual 269, 3) := by decide +kernel
theorem dX11_head_6 : decode cX11_head 6 = .ok (.istore_n 3, 1) := by decide +kernel
theorem dX11_head_7 : decode cX11_head 7 = .ok (.iload_n 3, 1) := by decide +kernel
theorem dX11_head_8 : decode cX11_head 8 = .ok (.ifCond .ge 7, 3) := by decide +kernel
theorem dX11_head_11 : decode cX11_head 11 = .ok (.iload_n 3, 1) := by decide +kernel
theorem dX11_head_12 : decode cX11_head 12 = .ok (.goto 14, 3) := by decide +kernel
theorem dX11_head_15 : decode cX11_head 15 = .ok (.aload_n 0, 1) := by decide +kernel
theorem dX11_head_16 : decode cX11_head 16 = .ok (.getfield 23, 3) := by decide +kernel
theorem dX11_head_19 : decode cX11_head 19 = .ok (.aload_n 0, 1) := by decide +kernel
theorem dX11_head_20 : decode cX11_head 20 = .ok (.getfield 32, 3) := by decide +kernel
theorem dX11_head_23 : decode cX11_head 23 = .ok (.iload_n 3, 1) := by decide +kernel
theorem dX11_head_24 : decode cX11_head 24 = .ok (.iaload, 1) := by decide +kernel
theorem dX11_head_25 : decode cX11_head 25 = .ok (.iaload, 1) := by decide +kernel
theorem dX11_head_26 : decode cX11_head 26 = .ok (.ireturn, 1) := by decide +kernel
theorem dX11_deepOf_0 : decode cX11_deepOf 0 = .ok (.iload_n 1, 1) := by decide +kernel
theorem dX11_deepOf_1 : decode cX11_deepOf 1 = .ok (.ifCond .ge 5, 3) := by decide +kernel
theorem dX11_deepOf_4 : decode cX11_deepOf 4 = .ok (.iconst 0, 1) := by decide +kernel
theorem dX11_deepOf_5 : decode cX11_deepOf 5 = .ok (.ireturn, 1) := by decide +kernel
theorem dX11_deepOf_6 : decode cX11_deepOf 6 = .ok (.iconst 0, 1) := by decide +kernel
theorem dX11_deepOf_7 : decode cX11_deepOf 7 = .ok (.istore_n 2, 1) := by decide +kernel
theorem dX11_deepOf_8 : decode cX11_deepOf 8 = .ok (.aload_n 0, 1) := by decide +kernel
theorem dX11_deepOf_9 : decode cX11_deepOf 9 = .ok (.getfield 26, 3) := by decide +kernel
theorem dX11_deepOf_12 : decode cX11_deepOf 12 = .ok (.iload_n 1, 1) := by decide +kernel
theorem dX11_deepOf_13 : decode cX11_deepOf 13 = .ok (.iaload, 1) := by decide +kernel
theorem dX11_deepOf_14 : decode cX11_deepOf 14 = .ok (.istore_n 3, 1) := by decide +kernel
theorem dX11_deepOf_15 : decode cX11_deepOf 15 = .ok (.iload_n 3, 1) := by decide +kernel
theorem dX11_deepOf_16 : decode cX11_deepOf 16 = .ok (.ifCond .lt 28, 3) := by decide +kernel
theorem dX11_deepOf_19 : decode cX11_deepOf 19 = .ok (.iload_n 2, 1) := by decide +kernel
theorem dX11_deepOf_20 : decode cX11_deepOf 20 = .ok (.aload_n 0, 1) := by decide +kernel
theorem dX11_deepOf_21 : decode cX11_deepOf 21 = .ok (.aload_n 0, 1) := by decide +kernel
theorem dX11_deepOf_22 : decode cX11_deepOf 22 = .ok (.getfield 42, 3) := by decide +kernel
theorem dX11_deepOf_25 : decode cX11_deepOf 25 = .ok (.iload_n 3, 1) := by decide +kernel
theorem dX11_deepOf_26 : decode cX11_deepOf 26 = .ok (.iaload, 1) := by decide +kernel
theorem dX11_deepOf_27 : decode cX11_deepOf 27 = .ok (.invokevirtual 272, 3) := by decide +kernel
theorem dX11_deepOf_30 : decode cX11_deepOf 30 = .ok (.invokestatic 275, 3) := by decide +kernel
theorem dX11_deepOf_33 : decode cX11_deepOf 33 = .ok (.istore_n 2, 1) := by decide +kernel
theorem dX11_deepOf_34 : decode cX11_deepOf 34 = .ok (.aload_n 0, 1) := by decide +kernel
theorem dX11_deepOf_35 : decode cX11_deepOf 35 = .ok (.getfield 45, 3) := by decide +kernel
theorem dX11_deepOf_38 : decode cX11_deepOf 38 = .ok (.iload_n 3, 1) := by decide +kernel
theorem dX11_deepOf_39 : decode cX11_deepOf 39 = .ok (.iaload, 1) := by decide +kernel
theorem dX11_deepOf_40 : decode cX11_deepOf 40 = .ok (.istore_n 3, 1) := by decide +kernel
theorem dX11_deepOf_41 : decode cX11_deepOf 41 = .ok (.goto (-26), 3) := by decide +kernel
theorem dX11_deepOf_44 : decode cX11_deepOf 44 = .ok (.iload_n 2, 1) := by decide +kernel
theorem dX11_deepOf_45 : decode cX11_deepOf 45 = .ok (.iconst 1, 1) := by decide +kernel
theorem dX11_deepOf_46 : decode cX11_deepOf 46 = .ok (.iadd, 1) := by decide +kernel
theorem dX11_deepOf_47 : decode cX11_deepOf 47 = .ok (.ireturn, 1) := by decide +kernel
theorem dX11_deepIn_0 : decode cX11_deepIn 0 = .ok (.aload_n 0, 1) := by decide +kernel
theorem dX11_deepIn_1 : decode cX11_deepIn 1 = .ok (.aload_n 0, 1) := by decide +kernel
theorem dX11_deepIn_2 : decode cX11_deepIn 2 = .ok (.getfield 32, 3) := by decide +kernel
theorem dX11_deepIn_5 : decode cX11_deepIn 5 = .ok (.iload_n 1, 1) := by decide +kernel
theorem dX11_deepIn_6 : decode cX11_deepIn 6 = .ok (.iaload, 1) := by decide +kernel
theorem dX11_deepIn_7 : decode cX11_deepIn 7 = .ok (.invokevirtual 278, 3) := by decide +kernel
theorem dX11_deepIn_10 : decode cX11_deepIn 10 = .ok (.istore_n 2, 1) := by decide +kernel
theorem dX11_deepIn_11 : decode cX11_deepIn 11 = .ok (.aload_n 0, 1) := by decide +kernel
theorem dX11_deepIn_12 : decode cX11_deepIn 12 = .ok (.getfield 35, 3) := by decide +kernel
theorem dX11_deepIn_15 : decode cX11_deepIn 15 = .ok (.iload_n 1, 1) := by decide +kernel
theorem dX11_deepIn_16 : decode cX11_deepIn 16 = .ok (.iaload, 1) := by decide +kernel
theorem dX11_deepIn_17 : decode cX11_deepIn 17 = .ok (.istore_n 3, 1) := by decide +kernel
theorem dX11_deepIn_18 : decode cX11_deepIn 18 = .ok (.iload_n 3, 1) := by decide +kernel
theorem dX11_deepIn_19 : decode cX11_deepIn 19 = .ok (.ifCond .lt 28, 3) := by decide +kernel
theorem dX11_deepIn_22 : decode cX11_deepIn 22 = .ok (.iload_n 2, 1) := by decide +kernel
theorem dX11_deepIn_23 : decode cX11_deepIn 23 = .ok (.aload_n 0, 1) := by decide +kernel
theorem dX11_deepIn_24 : decode cX11_deepIn 24 = .ok (.aload_n 0, 1) := by decide +kernel
theorem dX11_deepIn_25 : decode cX11_deepIn 25 = .ok (.getfield 42, 3) := by decide +kernel
theorem dX11_deepIn_28 : decode cX11_deepIn 28 = .ok (.iload_n 3, 1) := by decide +kernel
theorem dX11_deepIn_29 : decode cX11_deepIn 29 = .ok (.iaload, 1) := by decide +kernel
theorem dX11_deepIn_30 : decode cX11_deepIn 30 = .ok (.invokevirtual 278, 3) := by decide +kernel
theorem dX11_deepIn_33 : decode cX11_deepIn 33 = .ok (.invokestatic 275, 3) := by decide +kernel
theorem dX11_deepIn_36 : decode cX11_deepIn 36 = .ok (.istore_n 2, 1) := by decide +kernel
theorem dX11_deepIn_37 : decode cX11_deepIn 37 = .ok (.aload_n 0, 1) := by decide +kernel
theorem dX11_deepIn_38 : decode cX11_deepIn 38 = .ok (.getfield 45, 3) := by decide +kernel
theorem dX11_deepIn_41 : decode cX11_deepIn 41 = .ok (.iload_n 3, 1) := by decide +kernel
theorem dX11_deepIn_42 : decode cX11_deepIn 42 = .ok (.iaload, 1) := by decide +kernel
theorem dX11_deepIn_43 : decode cX11_deepIn 43 = .ok (.istore_n 3, 1) := by decide +kernel
theorem dX11_deepIn_44 : decode cX11_deepIn 44 = .ok (.goto (-26), 3) := by decide +kernel
theorem dX11_deepIn_47 : decode cX11_deepIn 47 = .ok (.aload_n 0, 1) := by decide +kernel
theorem dX11_deepIn_48 : decode cX11_deepIn 48 = .ok (.getfield 38, 3) := by decide +kernel
theorem dX11_deepIn_51 : decode cX11_deepIn 51 = .ok (.iload_n 1, 1) := by decide +kernel
theorem dX11_deepIn_52 : decode cX11_deepIn 52 = .ok (.iaload, 1) := by decide +kernel
theorem dX11_deepIn_53 : decode cX11_deepIn 53 = .ok (.istore_n 3, 1) := by decide +kernel
theorem dX11_deepIn_54 : decode cX11_deepIn 54 = .ok (.iload_n 3, 1) := by decide +kernel
theorem dX11_deepIn_55 : decode cX11_deepIn 55 = .ok (.ifCond .lt 28, 3) := by decide +kernel
theorem dX11_deepIn_58 : decode cX11_deepIn 58 = .ok (.iload_n 2, 1) := by decide +kernel
theorem dX11_deepIn_59 : decode cX11_deepIn 59 = .ok (.aload_n 0, 1) := by decide +kernel
theorem dX11_deepIn_60 : decode cX11_deepIn 60 = .ok (.aload_n 0, 1) := by decide +kernel
theorem dX11_deepIn_61 : decode cX11_deepIn 61 = .ok (.getfield 42, 3) := by decide +kernel
theorem dX11_deepIn_64 : decode cX11_deepIn 64 = .ok (.iload_n 3, 1) := by decide +kernel
theorem dX11_deepIn_65 : decode cX11_deepIn 65 = .ok (.iaload, 1) := by decide +kernel
theorem dX11_deepIn_66 : decode cX11_deepIn 66 = .ok (.invokevirtual 272, 3) := by decide +kernel
theorem dX11_deepIn_69 : decode cX11_deepIn 69 = .ok (.invokestatic 275, 3) := by decide +kernel
theorem dX11_deepIn_72 : decode cX11_deepIn 72 = .ok (.istore_n 2, 1) := by decide +kernel
theorem dX11_deepIn_73 : decode cX11_deepIn 73 = .ok (.aload_n 0, 1) := by decide +kernel
theorem dX11_deepIn_74 : decode cX11_deepIn 74 = .ok (.getfield 45, 3) := by decide +kernel
theorem dX11_deepIn_77 : decode cX11_deepIn 77 = .ok (.iload_n 3, 1) := by decide +kernel
theorem dX11_deepIn_78 : decode cX11_deepIn 78 = .ok (.iaload, 1) := by decide +kernel
theorem dX11_deepIn_79 : decode cX11_deepIn 79 = .ok (.istore_n 3, 1) := by decide +kernel
theorem dX11_deepIn_80 : decode cX11_deepIn 80 = .ok (.goto (-26), 3) := by decide +kernel
theorem dX11_deepIn_83 : decode cX11_deepIn 83 = .ok (.iload_n 2, 1) := by decide +kernel
theorem dX11_deepIn_84 : decode cX11_deepIn 84 = .ok (.ireturn, 1) := by decide +kernel
theorem dX11_depth_0 : decode cX11_depth 0 = .ok (.aload_n 0, 1) := by decide +kernel
theorem dX11_depth_1 : decode cX11_depth 1 = .ok (.iload_n 1, 1) := by decide +kernel
theorem dX11_depth_2 : decode cX11_depth 2 = .ok (.invokevirtual 171, 3) := by decide +kernel
theorem dX11_depth_5 : decode cX11_depth 5 = .ok (.ifCond .eq 15, 3) := by decide +kernel
theorem dX11_depth_8 : decode cX11_depth 8 = .ok (.aload_n 0, 1) := by decide +kernel
theorem dX11_depth_9 : decode cX11_depth 9 = .ok (.aload_n 0, 1) := by decide +kernel
theorem dX11_depth_10 : decode cX11_depth 10 = .ok (.iload_n 1, 1) := by decide +kernel
theorem dX11_depth_11 : decode cX11_depth 11 = .ok (.invokevirtual 251, 3) := by decide +kernel
theorem dX11_depth_14 : decode cX11_depth 14 = .ok (.invokevirtual 278, 3) := by decide +kernel
theorem dX11_depth_17 : decode cX11_depth 17 = .ok (.goto 5, 3) := by decide +kernel
theorem dX11_depth_20 : decode cX11_depth 20 = .ok (.bipush (-2), 2) := by decide +kernel
theorem dX11_depth_22 : decode cX11_depth 22 = .ok (.ireturn, 1) := by decide +kernel
theorem dX11_marks_0 : decode cX11_marks 0 = .ok (.iload_n 1, 1) := by decide +kernel
theorem dX11_marks_1 : decode cX11_marks 1 = .ok (.ifCond .lt 14, 3) := by decide +kernel
theorem dX11_marks_4 : decode cX11_marks 4 = .ok (.aload_n 0, 1) := by decide +kernel
theorem dX11_marks_5 : decode cX11_marks 5 = .ok (.getfield 60, 3) := by decide +kernel
theorem dX11_marks_8 : decode cX11_marks 8 = .ok (.iload_n 1, 1) := by decide +kernel
theorem dX11_marks_9 : decode cX11_marks 9 = .ok (.iaload, 1) := by decide +kernel
theorem dX11_marks_10 : decode cX11_marks 10 = .ok (.iload_n 2, 1) := by decide +kernel
theorem dX11_marks_11 : decode cX11_marks 11 = .ok (.iand, 1) := by decide +kernel
theorem dX11_marks_12 : decode cX11_marks 12 = .ok (.ifCond .eq 4, 3) := by decide +kernel
theorem dX11_marks_15 : decode cX11_marks 15 = .ok (.return_, 1) := by decide +kernel
theorem dX11_marks_16 : decode cX11_marks 16 = .ok (.aload_n 0, 1) := by decide +kernel
theorem dX11_marks_17 : decode cX11_marks 17 = .ok (.getfield 60, 3) := by decide +kernel
theorem dX11_marks_20 : decode cX11_marks 20 = .ok (.iload_n 1, 1) := by decide +kernel
theorem dX11_marks_21 : decode cX11_marks 21 = .ok (.dup2, 1) := by decide +kernel
theorem dX11_marks_22 : decode cX11_marks 22 = .ok (.iaload, 1) := by decide +kernel
theorem dX11_marks_23 : decode cX11_marks 23 = .ok (.iload_n 2, 1) := by decide +kernel
theorem dX11_marks_24 : decode cX11_marks 24 = .ok (.ior, 1) := by decide +kernel
theorem dX11_marks_25 : decode cX11_marks 25 = .ok (.iastore, 1) := by decide +kernel
theorem dX11_marks_26 : decode cX11_marks 26 = .ok (.aload_n 0, 1) := by decide +kernel
theorem dX11_marks_27 : decode cX11_marks 27 = .ok (.getfield 26, 3) := by decide +kernel
theorem dX11_marks_30 : decode cX11_marks 30 = .ok (.iload_n 1, 1) := by decide +kernel
theorem dX11_marks_31 : decode cX11_marks 31 = .ok (.iaload, 1) := by decide +kernel
theorem dX11_marks_32 : decode cX11_marks 32 = .ok (.istore_n 3, 1) := by decide +kernel
theorem dX11_marks_33 : decode cX11_marks 33 = .ok (.iload_n 3, 1) := by decide +kernel
theorem dX11_marks_34 : decode cX11_marks 34 = .ok (.ifCond .lt 24, 3) := by decide +kernel
theorem dX11_marks_37 : decode cX11_marks 37 = .ok (.aload_n 0, 1) := by decide +kernel
theorem dX11_marks_38 : decode cX11_marks 38 = .ok (.aload_n 0, 1) := by decide +kernel
theorem dX11_marks_39 : decode cX11_marks 39 = .ok (.getfield 42, 3) := by decide +kernel
theorem dX11_marks_42 : decode cX11_marks 42 = .ok (.iload_n 3, 1) := by decide +kernel
theorem dX11_marks_43 : decode cX11_marks 43 = .ok (.iaload, 1) := by decide +kernel
theorem dX11_marks_44 : decode cX11_marks 44 = .ok (.iload_n 2, 1) := by decide +kernel
theorem dX11_marks_45 : decode cX11_marks 45 = .ok (.invokevirtual 281, 3) := by decide +kernel
theorem dX11_marks_48 : decode cX11_marks 48 = .ok (.aload_n 0, 1) := by decide +kernel
theorem dX11_marks_49 : decode cX11_marks 49 = .ok (.getfield 45, 3) := by decide +kernel
theorem dX11_marks_52 : decode cX11_marks 52 = .ok (.iload_n 3, 1) := by decide +kernel
theorem dX11_marks_53 : decode cX11_marks 53 = .ok (.iaload, 1) := by decide +kernel
theorem dX11_marks_54 : decode cX11_marks 54 = .ok (.istore_n 3, 1) := by decide +kernel
theorem dX11_marks_55 : decode cX11_marks 55 = .ok (.goto (-22), 3) := by decide +kernel
theorem dX11_marks_58 : decode cX11_marks 58 = .ok (.return_, 1) := by decide +kernel
theorem dX11_marksTree_0 : decode cX11_marksTree 0 = .ok (.aload_n 0, 1) := by decide +kernel
theorem dX11_marksTree_1 : decode cX11_marksTree 1 = .ok (.getfield 63, 3) := by decide +kernel
theorem dX11_marksTree_4 : decode cX11_marksTree 4 = .ok (.iload_n 1, 1) := by decide +kernel
theorem dX11_marksTree_5 : decode cX11_marksTree 5 = .ok (.iaload, 1) := by decide +kernel
theorem dX11_marksTree_6 : decode cX11_marksTree 6 = .ok (.iload_n 2, 1) := by decide +kernel
theorem dX11_marksTree_7 : decode cX11_marksTree 7 = .ok (.iand, 1) := by decide +kernel
theorem dX11_marksTree_8 : decode cX11_marksTree 8 = .ok (.ifCond .eq 4, 3) := by decide +kernel
theorem dX11_marksTree_11 : decode cX11_marksTree 11 = .ok (.return_, 1) := by decide +kernel
theorem dX11_marksTree_12 : decode cX11_marksTree 12 = .ok (.aload_n 0, 1) := by decide +kernel
theorem dX11_marksTree_13 : decode cX11_marksTree 13 = .ok (.getfield 63, 3) := by decide +kernel
theorem dX11_marksTree_16 : decode cX11_marksTree 16 = .ok (.iload_n 1, 1) := by decide +kernel
theorem dX11_marksTree_17 : decode cX11_marksTree 17 = .ok (.dup2, 1) := by decide +kernel
theorem dX11_marksTree_18 : decode cX11_marksTree 18 = .ok (.iaload, 1) := by decide +kernel
theorem dX11_marksTree_19 : decode cX11_marksTree 19 = .ok (.iload_n 2, 1) := by decide +kernel
theorem dX11_marksTree_20 : decode cX11_marksTree 20 = .ok (.ior, 1) := by decide +kernel
theorem dX11_marksTree_21 : decode cX11_marksTree 21 = .ok (.iastore, 1) := by decide +kernel
theorem dX11_marksTree_22 : decode cX11_marksTree 22 = .ok (.aload_n 0, 1) := by decide +kernel
theorem dX11_marksTree_23 : decode cX11_marksTree 23 = .ok (.aload_n 0, 1) := by decide +kernel
theorem dX11_marksTree_24 : decode cX11_marksTree 24 = .ok (.getfield 32, 3) := by decide +kernel
theorem dX11_marksTree_27 : decode cX11_marksTree 27 = .ok (.iload_n 1, 1) := by decide +kernel
theorem dX11_marksTree_28 : decode cX11_marksTree 28 = .ok (.iaload, 1) := by decide +kernel
theorem dX11_marksTree_29 : decode cX11_marksTree 29 = .ok (.iload_n 2, 1) := by decide +kernel
theorem dX11_marksTree_30 : decode cX11_marksTree 30 = .ok (.invokevirtual 284, 3) := by decide +kernel
theorem dX11_marksTree_33 : decode cX11_marksTree 33 = .ok (.aload_n 0, 1) := by decide +kernel
theorem dX11_marksTree_34 : decode cX11_marksTree 34 = .ok (.getfield 35, 3) := by decide +kernel
theorem dX11_marksTree_37 : decode cX11_marksTree 37 = .ok (.iload_n 1, 1) := by decide +kernel
theorem dX11_marksTree_38 : decode cX11_marksTree 38 = .ok (.iaload, 1) := by decide +kernel
theorem dX11_marksTree_39 : decode cX11_marksTree 39 = .ok (.istore_n 3, 1) := by decide +kernel
theorem dX11_marksTree_40 : decode cX11_marksTree 40 = .ok (.iload_n 3, 1) := by decide +kernel
theorem dX11_marksTree_41 : decode cX11_marksTree 41 = .ok (.ifCond .lt 24, 3) := by decide +kernel
theorem dX11_marksTree_44 : decode cX11_marksTree 44 = .ok (.aload_n 0, 1) := by decide +kernel
theorem dX11_marksTree_45 : decode cX11_marksTree 45 = .ok (.aload_n 0, 1) := by decide +kernel
theorem dX11_marksTree_46 : decode cX11_marksTree 46 = .ok (.getfield 42, 3) := by decide +kernel
theorem dX11_marksTree_49 : decode cX11_marksTree 49 = .ok (.iload_n 3, 1) := by decide +kernel
theorem dX11_marksTree_50 : decode cX11_marksTree 50 = .ok (.iaload, 1) := by decide +kernel
theorem dX11_marksTree_51 : decode cX11_marksTree 51 = .ok (.iload_n 2, 1) := by decide +kernel
theorem dX11_marksTree_52 : decode cX11_marksTree 52 = .ok (.invokevirtual 284, 3) := by decide +kernel
theorem dX11_marksTree_55 : decode cX11_marksTree 55 = .ok (.aload_n 0, 1) := by decide +kernel
theorem dX11_marksTree_56 : decode cX11_marksTree 56 = .ok (.getfield 45, 3) := by decide +kernel
theorem dX11_marksTree_59 : decode cX11_marksTree 59 = .ok (.iload_n 3, 1) := by decide +kernel
theorem dX11_marksTree_60 : decode cX11_marksTree 60 = .ok (.iaload, 1) := by decide +kernel
theorem dX11_marksTree_61 : decode cX11_marksTree 61 = .ok (.istore_n 3, 1) := by decide +kernel
theorem dX11_marksTree_62 : decode cX11_marksTree 62 = .ok (.goto (-22), 3) := by decide +kernel
theorem dX11_marksTree_65 : decode cX11_marksTree 65 = .ok (.aload_n 0, 1) := by decide +kernel
theorem dX11_marksTree_66 : decode cX11_marksTree 66 = .ok (.getfield 38, 3) := by decide +kernel
theorem dX11_marksTree_69 : decode cX11_marksTree 69 = .ok (.iload_n 1, 1) := by decide +kernel
theorem dX11_marksTree_70 : decode cX11_marksTree 70 = .ok (.iaload, 1) := by decide +kernel
theorem dX11_marksTree_71 : decode cX11_marksTree 71 = .ok (.istore_n 3, 1) := by decide +kernel
theorem dX11_marksTree_72 : decode cX11_marksTree 72 = .ok (.iload_n 3, 1) := by decide +kernel
theorem dX11_marksTree_73 : decode cX11_marksTree 73 = .ok (.ifCond .lt 24, 3) := by decide +kernel
theorem dX11_marksTree_76 : decode cX11_marksTree 76 = .ok (.aload_n 0, 1) := by decide +kernel
theorem dX11_marksTree_77 : decode cX11_marksTree 77 = .ok (.aload_n 0, 1) := by decide +kernel
theorem dX11_marksTree_78 : decode cX11_marksTree 78 = .ok (.getfield 42, 3) := by decide +kernel
theorem dX11_marksTree_81 : decode cX11_marksTree 81 = .ok (.iload_n 3, 1) := by decide +kernel
theorem dX11_marksTree_82 : decode cX11_marksTree 82 = .ok (.iaload, 1) := by decide +kernel
theorem dX11_marksTree_83 : decode cX11_marksTree 83 = .ok (.iload_n 2, 1) := by decide +kernel
theorem dX11_marksTree_84 : decode cX11_marksTree 84 = .ok (.invokevirtual 281, 3) := by decide +kernel
theorem dX11_marksTree_87 : decode cX11_marksTree 87 = .ok (.aload_n 0, 1) := by decide +kernel
theorem dX11_marksTree_88 : decode cX11_marksTree 88 = .ok (.getfield 45, 3) := by decide +kernel
theorem dX11_marksTree_91 : decode cX11_marksTree 91 = .ok (.iload_n 3, 1) := by decide +kernel
theorem dX11_marksTree_92 : decode cX11_marksTree 92 = .ok (.iaload, 1) := by decide +kernel
theorem dX11_marksTree_93 : decode cX11_marksTree 93 = .ok (.istore_n 3, 1) := by decide +kernel
theorem dX11_marksTree_94 : decode cX11_marksTree 94 = .ok (.goto (-22), 3) := by decide +kernel
theorem dX11_marksTree_97 : decode cX11_marksTree 97 = .ok (.return_, 1) := by decide +kernel
theorem dX11_clears_0 : decode cX11_clears 0 = .ok (.iconst 0, 1) := by decide +kernel
theorem dX11_clears_1 : decode cX11_clears 1 = .ok (.istore_n 1, 1) := by decide +kernel
theorem dX11_clears_2 : decode cX11_clears 2 = .ok (.iload_n 1, 1) := by decide +kernel
theorem dX11_clears_3 : decode cX11_clears 3 = .ok (.aload_n 0, 1) := by decide +kernel
theorem dX11_clears_4 : decode cX11_clears 4 = .ok (.getfield 189, 3) := by decide +kernel
theorem dX11_clears_7 : decode cX11_clears 7 = .ok (.if_icmp .ge 16, 3) := by decide +kernel
theorem dX11_clears_10 : decode cX11_clears 10 = .ok (.aload_n 0, 1) := by decide +kernel
theorem dX11_clears_11 : decode cX11_clears 11 = .ok (.getfield 60, 3) := by decide +kernel
theorem dX11_clears_14 : decode cX11_clears 14 = .ok (.iload_n 1, 1) := by decide +kernel
theorem dX11_clears_15 : decode cX11_clears 15 = .ok (.iconst 0, 1) := by decide +kernel
theorem dX11_clears_16 : decode cX11_clears 16 = .ok (.iastore, 1) := by decide +kernel
theorem dX11_clears_17 : decode cX11_clears 17 = .ok (.iinc 1 1, 3) := by decide +kernel
theorem dX11_clears_20 : decode cX11_clears 20 = .ok (.goto (-18), 3) := by decide +kernel
theorem dX11_clears_23 : decode cX11_clears 23 = .ok (.iconst 0, 1) := by decide +kernel
theorem dX11_clears_24 : decode cX11_clears 24 = .ok (.istore_n 1, 1) := by decide +kernel
theorem dX11_clears_25 : decode cX11_clears 25 = .ok (.iload_n 1, 1) := by decide +kernel
theorem dX11_clears_26 : decode cX11_clears 26 = .ok (.aload_n 0, 1) := by decide +kernel
theorem dX11_clears_27 : decode cX11_clears 27 = .ok (.getfield 192, 3) := by decide +kernel
theorem dX11_clears_30 : decode cX11_clears 30 = .ok (.if_icmp .ge 16, 3) := by decide +kernel
theorem dX11_clears_33 : decode cX11_clears 33 = .ok (.aload_n 0, 1) := by decide +kernel
theorem dX11_clears_34 : decode cX11_clears 34 = .ok (.getfield 63, 3) := by decide +kernel
theorem dX11_clears_37 : decode cX11_clears 37 = .ok (.iload_n 1, 1) := by decide +kernel
theorem dX11_clears_38 : decode cX11_clears 38 = .ok (.iconst 0, 1) := by decide +kernel
theorem dX11_clears_39 : decode cX11_clears 39 = .ok (.iastore, 1) := by decide +kernel
theorem dX11_clears_40 : decode cX11_clears 40 = .ok (.iinc 1 1, 3) := by decide +kernel
theorem dX11_clears_43 : decode cX11_clears 43 = .ok (.goto (-18), 3) := by decide +kernel
theorem dX11_clears_46 : decode cX11_clears 46 = .ok (.return_, 1) := by decide +kernel
theorem dX11_marked_0 : decode cX11_marked 0 = .ok (.iconst 0, 1) := by decide +kernel
theorem dX11_marked_1 : decode cX11_marked 1 = .ok (.istore_n 2, 1) := by decide +kernel
theorem dX11_marked_2 : decode cX11_marked 2 = .ok (.iconst 0, 1) := by decide +kernel
theorem dX11_marked_3 : decode cX11_marked 3 = .ok (.istore_n 3, 1) := by decide +kernel
theorem dX11_marked_4 : decode cX11_marked 4 = .ok (.iload_n 3, 1) := by decide +kernel
theorem dX11_marked_5 : decode cX11_marked 5 = .ok (.aload_n 0, 1) := by decide +kernel
theorem dX11_marked_6 : decode cX11_marked 6 = .ok (.getfield 189, 3) := by decide +kernel
theorem dX11_marked_9 : decode cX11_marked 9 = .ok (.if_icmp .ge 27, 3) := by decide +kernel
theorem dX11_marked_12 : decode cX11_marked 12 = .ok (.iload_n 2, 1) := by decide +kernel
theorem dX11_marked_13 : decode cX11_marked 13 = .ok (.aload_n 0, 1) := by decide +kernel
theorem dX11_marked_14 : decode cX11_marked 14 = .ok (.getfield 60, 3) := by decide +kernel
theorem dX11_marked_17 : decode cX11_marked 17 = .ok (.iload_n 3, 1) := by decide +kernel
theorem dX11_marked_18 : decode cX11_marked 18 = .ok (.iaload, 1) := by decide +kernel
theorem dX11_marked_19 : decode cX11_marked 19 = .ok (.iload_n 1, 1) := by decide +kernel
theorem dX11_marked_20 : decode cX11_marked 20 = .ok (.if_icmp .ne 7, 3) := by decide +kernel
theorem dX11_marked_23 : decode cX11_marked 23 = .ok (.iconst 1, 1) := by decide +kernel
theorem dX11_marked_24 : decode cX11_marked 24 = .ok (.goto 4, 3) := by decide +kernel
theorem dX11_marked_27 : decode cX11_marked 27 = .ok (.iconst 0, 1) := by decide +kernel
theorem dX11_marked_28 : decode cX11_marked 28 = .ok (.iadd, 1) := by decide +kernel
theorem dX11_marked_29 : decode cX11_marked 29 = .ok (.istore_n 2, 1) := by decide +kernel
theorem dX11_marked_30 : decode cX11_marked 30 = .ok (.iinc 3 1, 3) := by decide +kernel
theorem dX11_marked_33 : decode cX11_marked 33 = .ok (.goto (-29), 3) := by decide +kernel
theorem dX11_marked_36 : decode cX11_marked 36 = .ok (.iconst 0, 1) := by decide +kernel
theorem dX11_marked_37 : decode cX11_marked 37 = .ok (.istore_n 3, 1) := by decide +kernel
theorem dX11_marked_38 : decode cX11_marked 38 = .ok (.iload_n 3, 1) := by decide +kernel
theorem dX11_marked_39 : decode cX11_marked 39 = .ok (.aload_n 0, 1) := by decide +kernel
theorem dX11_marked_40 : decode cX11_marked 40 = .ok (.getfield 192, 3) := by decide +kernel
theorem dX11_marked_43 : decode cX11_marked 43 = .ok (.if_icmp .ge 27, 3) := by decide +kernel
theorem dX11_marked_46 : decode cX11_marked 46 = .ok (.iload_n 2, 1) := by decide +kernel
theorem dX11_marked_47 : decode cX11_marked 47 = .ok (.aload_n 0, 1) := by decide +kernel
theorem dX11_marked_48 : decode cX11_marked 48 = .ok (.getfield 63, 3) := by decide +kernel
theorem dX11_marked_51 : decode cX11_marked 51 = .ok (.iload_n 3, 1) := by decide +kernel
theorem dX11_marked_52 : decode cX11_marked 52 = .ok (.iaload, 1) := by decide +kernel
theorem dX11_marked_53 : decode cX11_marked 53 = .ok (.iload_n 1, 1) := by decide +kernel
theorem dX11_marked_54 : decode cX11_marked 54 = .ok (.if_icmp .ne 7, 3) := by decide +kernel
theorem dX11_marked_57 : decode cX11_marked 57 = .ok (.iconst 1, 1) := by decide +kernel
theorem dX11_marked_58 : decode cX11_marked 58 = .ok (.goto 4, 3) := by decide +kernel
theorem dX11_marked_61 : decode cX11_marked 61 = .ok (.iconst 0, 1) := by decide +kernel
theorem dX11_marked_62 : decode cX11_marked 62 = .ok (.iadd, 1) := by decide +kernel
theorem dX11_marked_63 : decode cX11_marked 63 = .ok (.istore_n 2, 1) := by decide +kernel
theorem dX11_marked_64 : decode cX11_marked 64 = .ok (.iinc 3 1, 3) := by decide +kernel
theorem dX11_marked_67 : decode cX11_marked 67 = .ok (.goto (-29), 3) := by decide +kernel
theorem dX11_marked_70 : decode cX11_marked 70 = .ok (.iload_n 2, 1) := by decide +kernel
theorem dX11_marked_71 : decode cX11_marked 71 = .ok (.ireturn, 1) := by decide +kernel
theorem dX11_parts_0 : decode cX11_parts 0 = .ok (.aload_n 0, 1) := by decide +kernel
theorem dX11_parts_1 : decode cX11_parts 1 = .ok (.iload_n 1, 1) := by decide +kernel
theorem dX11_parts_2 : decode cX11_parts 2 = .ok (.invokevirtual 171, 3) := by decide +kernel
theorem dX11_parts_5 : decode cX11_parts 5 = .ok (.ifCond .ne 6, 3) := by decide +kernel
theorem dX11_parts_8 : decode cX11_parts 8 = .ok (.bipush (-2), 2) := by decide +kernel
theorem dX11_parts_10 : decode cX11_parts 10 = .ok (.ireturn, 1) := by decide +kernel
theorem dX11_parts_11 : decode cX11_parts 11 = .ok (.aload_n 0, 1) := by decide +kernel
theorem dX11_parts_12 : decode cX11_parts 12 = .ok (.aload_n 0, 1) := by decide +kernel
theorem dX11_parts_13 : decode cX11_parts 13 = .ok (.getfield 9, 3) := by decide +kernel
theorem dX11_parts_16 : decode cX11_parts 16 = .ok (.iconst 0, 1) := by decide +kernel
theorem dX11_parts_17 : decode cX11_parts 17 = .ok (.iaload, 1) := by decide +kernel
theorem dX11_parts_18 : decode cX11_parts 18 = .ok (.iconst (-1), 1) := by decide +kernel
theorem dX11_parts_19 : decode cX11_parts 19 = .ok (.invokevirtual 179, 3) := by decide +kernel
theorem dX11_parts_22 : decode cX11_parts 22 = .ok (.aload_n 0, 1) := by decide +kernel
theorem dX11_parts_23 : decode cX11_parts 23 = .ok (.invokevirtual 287, 3) := by decide +kernel
theorem dX11_parts_26 : decode cX11_parts 26 = .ok (.aload_n 0, 1) := by decide +kernel
theorem dX11_parts_27 : decode cX11_parts 27 = .ok (.aload_n 0, 1) := by decide +kernel
theorem dX11_parts_28 : decode cX11_parts 28 = .ok (.getfield 48, 3) := by decide +kernel
theorem dX11_parts_31 : decode cX11_parts 31 = .ok (.iload_n 1, 1) := by decide +kernel
theorem dX11_parts_32 : decode cX11_parts 32 = .ok (.iaload, 1) := by decide +kernel
theorem dX11_parts_33 : decode cX11_parts 33 = .ok (.iconst 1, 1) := by decide +kernel
theorem dX11_parts_34 : decode cX11_parts 34 = .ok (.invokevirtual 284, 3) := by decide +kernel
theorem dX11_parts_37 : decode cX11_parts 37 = .ok (.aload_n 0, 1) := by decide +kernel
theorem dX11_parts_38 : decode cX11_parts 38 = .ok (.iconst 1, 1) := by decide +kernel
theorem dX11_parts_39 : decode cX11_parts 39 = .ok (.invokevirtual 290, 3) := by decide +kernel
theorem dX11_parts_42 : decode cX11_parts 42 = .ok (.ireturn, 1) := by decide +kernel
theorem dX11_own_0 : decode cX11_own 0 = .ok (.aload_n 0, 1) := by decide +kernel
theorem dX11_own_1 : decode cX11_own 1 = .ok (.iload_n 1, 1) := by decide +kernel
theorem dX11_own_2 : decode cX11_own 2 = .ok (.invokevirtual 171, 3) := by decide +kernel
theorem dX11_own_5 : decode cX11_own 5 = .ok (.ifCond .ne 6, 3) := by decide +kernel
theorem dX11_own_8 : decode cX11_own 8 = .ok (.bipush (-2), 2) := by decide +kernel
theorem dX11_own_10 : decode cX11_own 10 = .ok (.ireturn, 1) := by decide +kernel
theorem dX11_own_11 : decode cX11_own 11 = .ok (.aload_n 0, 1) := by decide +kernel
theorem dX11_own_12 : decode cX11_own 12 = .ok (.aload_n 0, 1) := by decide +kernel
theorem dX11_own_13 : decode cX11_own 13 = .ok (.getfield 9, 3) := by decide +kernel
theorem dX11_own_16 : decode cX11_own 16 = .ok (.iconst 0, 1) := by decide +kernel
theorem dX11_own_17 : decode cX11_own 17 = .ok (.iaload, 1) := by decide +kernel
theorem dX11_own_18 : decode cX11_own 18 = .ok (.iconst (-1), 1) := by decide +kernel
theorem dX11_own_19 : decode cX11_own 19 = .ok (.invokevirtual 179, 3) := by decide +kernel
theorem dX11_own_22 : decode cX11_own 22 = .ok (.aload_n 0, 1) := by decide +kernel
theorem dX11_own_23 : decode cX11_own 23 = .ok (.invokevirtual 287, 3) := by decide +kernel
theorem dX11_own_26 : decode cX11_own 26 = .ok (.aload_n 0, 1) := by decide +kernel
theorem dX11_own_27 : decode cX11_own 27 = .ok (.aload_n 0, 1) := by decide +kernel
theorem dX11_own_28 : decode cX11_own 28 = .ok (.getfield 48, 3) := by decide +kernel
theorem dX11_own_31 : decode cX11_own 31 = .ok (.iload_n 1, 1) := by decide +kernel
theorem dX11_own_32 : decode cX11_own 32 = .ok (.iaload, 1) := by decide +kernel
theorem dX11_own_33 : decode cX11_own 33 = .ok (.iconst 1, 1) := by decide +kernel
theorem dX11_own_34 : decode cX11_own 34 = .ok (.invokevirtual 284, 3) := by decide +kernel
theorem dX11_own_37 : decode cX11_own 37 = .ok (.aload_n 0, 1) := by decide +kernel
theorem dX11_own_38 : decode cX11_own 38 = .ok (.getfield 9, 3) := by decide +kernel
theorem dX11_own_41 : decode cX11_own 41 = .ok (.bipush 6, 2) := by decide +kernel
theorem dX11_own_43 : decode cX11_own 43 = .ok (.iload_n 1, 1) := by decide +kernel
theorem dX11_own_44 : decode cX11_own 44 = .ok (.iadd, 1) := by decide +kernel
theorem dX11_own_45 : decode cX11_own 45 = .ok (.iaload, 1) := by decide +kernel
theorem dX11_own_46 : decode cX11_own 46 = .ok (.ifCond .eq 22, 3) := by decide +kernel
theorem dX11_own_49 : decode cX11_own 49 = .ok (.aload_n 0, 1) := by decide +kernel
theorem dX11_own_50 : decode cX11_own 50 = .ok (.aload_n 0, 1) := by decide +kernel
theorem dX11_own_51 : decode cX11_own 51 = .ok (.getfield 48, 3) := by decide +kernel
theorem dX11_own_54 : decode cX11_own 54 = .ok (.aload_n 0, 1) := by decide +kernel
theorem dX11_own_55 : decode cX11_own 55 = .ok (.getfield 9, 3) := by decide +kernel
theorem dX11_own_58 : decode cX11_own 58 = .ok (.bipush 36, 2) := by decide +kernel
theorem dX11_own_60 : decode cX11_own 60 = .ok (.iload_n 1, 1) := by decide +kernel
theorem dX11_own_61 : decode cX11_own 61 = .ok (.iadd, 1) := by decide +kernel
theorem dX11_own_62 : decode cX11_own 62 = .ok (.iaload, 1) := by decide +kernel
theorem dX11_own_63 : decode cX11_own 63 = .ok (.iaload, 1) := by decide +kernel
theorem dX11_own_64 : decode cX11_own 64 = .ok (.iconst 2, 1) := by decide +kernel
theorem dX11_own_65 : decode cX11_own 65 = .ok (.invokevirtual 284, 3) := by decide +kernel
theorem dX11_own_68 : decode cX11_own 68 = .ok (.aload_n 0, 1) := by decide +kernel
theorem dX11_own_69 : decode cX11_own 69 = .ok (.getfield 9, 3) := by decide +kernel
theorem dX11_own_72 : decode cX11_own 72 = .ok (.bipush 6, 2) := by decide +kernel
theorem dX11_own_74 : decode cX11_own 74 = .ok (.iload_n 1, 1) := by decide +kernel
theorem dX11_own_75 : decode cX11_own 75 = .ok (.iadd, 1) := by decide +kernel
theorem dX11_own_76 : decode cX11_own 76 = .ok (.iaload, 1) := by decide +kernel
theorem dX11_own_77 : decode cX11_own 77 = .ok (.iconst 2, 1) := by decide +kernel
theorem dX11_own_78 : decode cX11_own 78 = .ok (.if_icmp .ne 22, 3) := by decide +kernel
theorem dX11_own_81 : decode cX11_own 81 = .ok (.aload_n 0, 1) := by decide +kernel
theorem dX11_own_82 : decode cX11_own 82 = .ok (.aload_n 0, 1) := by decide +kernel
theorem dX11_own_83 : decode cX11_own 83 = .ok (.getfield 48, 3) := by decide +kernel
theorem dX11_own_86 : decode cX11_own 86 = .ok (.aload_n 0, 1) := by decide +kernel
theorem dX11_own_87 : decode cX11_own 87 = .ok (.getfield 9, 3) := by decide +kernel
theorem dX11_own_90 : decode cX11_own 90 = .ok (.bipush 66, 2) := by decide +kernel
theorem dX11_own_92 : decode cX11_own 92 = .ok (.iload_n 1, 1) := by decide +kernel
theorem dX11_own_93 : decode cX11_own 93 = .ok (.iadd, 1) := by decide +kernel
theorem dX11_own_94 : decode cX11_own 94 = .ok (.iaload, 1) := by decide +kernel
theorem dX11_own_95 : decode cX11_own 95 = .ok (.iaload, 1) := by decide +kernel
theorem dX11_own_96 : decode cX11_own 96 = .ok (.iconst 2, 1) := by decide +kernel
theorem dX11_own_97 : decode cX11_own 97 = .ok (.invokevirtual 284, 3) := by decide +kernel
theorem dX11_own_100 : decode cX11_own 100 = .ok (.aload_n 0, 1) := by decide +kernel
theorem dX11_own_101 : decode cX11_own 101 = .ok (.iconst 1, 1) := by decide +kernel
theorem dX11_own_102 : decode cX11_own 102 = .ok (.invokevirtual 290, 3) := by decide +kernel
theorem dX11_own_105 : decode cX11_own 105 = .ok (.ireturn, 1) := by decide +kernel
theorem dX11_shared_0 : decode cX11_shared 0 = .ok (.aload_n 0, 1) := by decide +kernel
theorem dX11_shared_1 : decode cX11_shared 1 = .ok (.iload_n 1, 1) := by decide +kernel
theorem dX11_shared_2 : decode cX11_shared 2 = .ok (.invokevirtual 171, 3) := by decide +kernel
theorem dX11_shared_5 : decode cX11_shared 5 = .ok (.ifCond .eq 11, 3) := by decide +kernel
theorem dX11_shared_8 : decode cX11_shared 8 = .ok (.aload_n 0, 1) := by decide +kernel
theorem dX11_shared_9 : decode cX11_shared 9 = .ok (.iload_n 2, 1) := by decide +kernel
theorem dX11_shared_10 : decode cX11_shared 10 = .ok (.invokevirtual 171, 3) := by decide +kernel
theorem dX11_shared_13 : decode cX11_shared 13 = .ok (.ifCond .ne 6, 3) := by decide +kernel
theorem dX11_shared_16 : decode cX11_shared 16 = .ok (.bipush (-2), 2) := by decide +kernel
theorem dX11_shared_18 : decode cX11_shared 18 = .ok (.ireturn, 1) := by decide +kernel
theorem dX11_shared_19 : decode cX11_shared 19 = .ok (.aload_n 0, 1) := by decide +kernel
theorem dX11_shared_20 : decode cX11_shared 20 = .ok (.aload_n 0, 1) := by decide +kernel
theorem dX11_shared_21 : decode cX11_shared 21 = .ok (.getfield 9, 3) := by decide +kernel
theorem dX11_shared_24 : decode cX11_shared 24 = .ok (.iconst 0, 1) := by decide +kernel
theorem dX11_shared_25 : decode cX11_shared 25 = .ok (.iaload, 1) := by decide +kernel
theorem dX11_shared_26 : decode cX11_shared 26 = .ok (.iconst (-1), 1) := by decide +kernel
theorem dX11_shared_27 : decode cX11_shared 27 = .ok (.invokevirtual 179, 3) := by decide +kernel
theorem dX11_shared_30 : decode cX11_shared 30 = .ok (.aload_n 0, 1) := by decide +kernel
theorem dX11_shared_31 : decode cX11_shared 31 = .ok (.invokevirtual 287, 3) := by decide +kernel
theorem dX11_shared_34 : decode cX11_shared 34 = .ok (.aload_n 0, 1) := by decide +kernel
theorem dX11_shared_35 : decode cX11_shared 35 = .ok (.aload_n 0, 1) := by decide +kernel
theorem dX11_shared_36 : decode cX11_shared 36 = .ok (.getfield 48, 3) := by decide +kernel
theorem dX11_shared_39 : decode cX11_shared 39 = .ok (.iload_n 1, 1) := by decide +kernel
theorem dX11_shared_40 : decode cX11_shared 40 = .ok (.iaload, 1) := by decide +kernel
theorem dX11_shared_41 : decode cX11_shared 41 = .ok (.iconst 1, 1) := by decide +kernel
theorem dX11_shared_42 : decode cX11_shared 42 = .ok (.invokevirtual 284, 3) := by decide +kernel
theorem dX11_shared_45 : decode cX11_shared 45 = .ok (.aload_n 0, 1) := by decide +kernel
theorem dX11_shared_46 : decode cX11_shared 46 = .ok (.aload_n 0, 1) := by decide +kernel
theorem dX11_shared_47 : decode cX11_shared 47 = .ok (.getfield 48, 3) := by decide +kernel
theorem dX11_shared_50 : decode cX11_shared 50 = .ok (.iload_n 2, 1) := by decide +kernel
theorem dX11_shared_51 : decode cX11_shared 51 = .ok (.iaload, 1) := by decide +kernel
theorem dX11_shared_52 : decode cX11_shared 52 = .ok (.iconst 2, 1) := by decide +kernel
theorem dX11_shared_53 : decode cX11_shared 53 = .ok (.invokevirtual 284, 3) := by decide +kernel
theorem dX11_shared_56 : decode cX11_shared 56 = .ok (.aload_n 0, 1) := by decide +kernel
theorem dX11_shared_57 : decode cX11_shared 57 = .ok (.iconst 3, 1) := by decide +kernel
theorem dX11_shared_58 : decode cX11_shared 58 = .ok (.invokevirtual 290, 3) := by decide +kernel
theorem dX11_shared_61 : decode cX11_shared 61 = .ok (.ireturn, 1) := by decide +kernel
theorem dX11_links_0 : decode cX11_links 0 = .ok (.aload_n 0, 1) := by decide +kernel
theorem dX11_links_1 : decode cX11_links 1 = .ok (.iload_n 1, 1) := by decide +kernel
theorem dX11_links_2 : decode cX11_links 2 = .ok (.invokevirtual 171, 3) := by decide +kernel
theorem dX11_links_5 : decode cX11_links 5 = .ok (.ifCond .eq 17, 3) := by decide +kernel
theorem dX11_links_8 : decode cX11_links 8 = .ok (.aload_n 0, 1) := by decide +kernel
theorem dX11_links_9 : decode cX11_links 9 = .ok (.aload_n 0, 1) := by decide +kernel
theorem dX11_links_10 : decode cX11_links 10 = .ok (.getfield 9, 3) := by decide +kernel
theorem dX11_links_13 : decode cX11_links 13 = .ok (.iconst 0, 1) := by decide +kernel
theorem dX11_links_14 : decode cX11_links 14 = .ok (.iaload, 1) := by decide +kernel
theorem dX11_links_15 : decode cX11_links 15 = .ok (.iload_n 1, 1) := by decide +kernel
theorem dX11_links_16 : decode cX11_links 16 = .ok (.invokevirtual 293, 3) := by decide +kernel
theorem dX11_links_19 : decode cX11_links 19 = .ok (.goto 5, 3) := by decide +kernel
theorem dX11_links_22 : decode cX11_links 22 = .ok (.bipush (-2), 2) := by decide +kernel
theorem dX11_links_24 : decode cX11_links 24 = .ok (.ireturn, 1) := by decide +kernel
theorem dX11_allBy_0 : decode cX11_allBy 0 = .ok (.aload_n 0, 1) := by decide +kernel
theorem dX11_allBy_1 : decode cX11_allBy 1 = .ok (.iload_n 1, 1) := by decide +kernel
theorem dX11_allBy_2 : decode cX11_allBy 2 = .ok (.iconst (-1), 1) := by decide +kernel
theorem dX11_allBy_3 : decode cX11_allBy 3 = .ok (.invokevirtual 179, 3) := by decide +kernel
theorem dX11_allBy_6 : decode cX11_allBy 6 = .ok (.iconst 0, 1) := by decide +kernel
theorem dX11_allBy_7 : decode cX11_allBy 7 = .ok (.istore_n 2, 1) := by decide +kernel
theorem dX11_allBy_8 : decode cX11_allBy 8 = .ok (.iconst 0, 1) := by decide +kernel
theorem dX11_allBy_9 : decode cX11_allBy 9 = .ok (.istore_n 3, 1) := by decide +kernel
theorem dX11_allBy_10 : decode cX11_allBy 10 = .ok (.iload_n 3, 1) := by decide +kernel
theorem dX11_allBy_11 : decode cX11_allBy 11 = .ok (.aload_n 0, 1) := by decide +kernel
theorem dX11_allBy_12 : decode cX11_allBy 12 = .ok (.getfield 9, 3) := by decide +kernel
theorem dX11_allBy_15 : decode cX11_allBy 15 = .ok (.iconst 2, 1) := by decide +kernel
theorem dX11_allBy_16 : decode cX11_allBy 16 = .ok (.iaload, 1) := by decide +kernel
theorem dX11_allBy_17 : decode cX11_allBy 17 = .ok (.if_icmp .ge 18, 3) := by decide +kernel
theorem dX11_allBy_20 : decode cX11_allBy 20 = .ok (.iload_n 2, 1) := by decide +kernel
theorem dX11_allBy_21 : decode cX11_allBy 21 = .ok (.aload_n 0, 1) := by decide +kernel
theorem dX11_allBy_22 : decode cX11_allBy 22 = .ok (.getfield 51, 3) := by decide +kernel
theorem dX11_allBy_25 : decode cX11_allBy 25 = .ok (.iload_n 3, 1) := by decide +kernel
theorem dX11_allBy_26 : decode cX11_allBy 26 = .ok (.iaload, 1) := by decide +kernel
theorem dX11_allBy_27 : decode cX11_allBy 27 = .ok (.iadd, 1) := by decide +kernel
theorem dX11_allBy_28 : decode cX11_allBy 28 = .ok (.istore_n 2, 1) := by decide +kernel
theorem dX11_allBy_29 : decode cX11_allBy 29 = .ok (.iinc 3 1, 3) := by decide +kernel
theorem dX11_allBy_32 : decode cX11_allBy 32 = .ok (.goto (-22), 3) := by decide +kernel
theorem dX11_allBy_35 : decode cX11_allBy 35 = .ok (.iload_n 2, 1) := by decide +kernel
theorem dX11_allBy_36 : decode cX11_allBy 36 = .ok (.ireturn, 1) := by decide +kernel
theorem dX11_all_0 : decode cX11_all 0 = .ok (.aload_n 0, 1) := by decide +kernel
theorem dX11_all_1 : decode cX11_all 1 = .ok (.getfield 9, 3) := by decide +kernel
theorem dX11_all_4 : decode cX11_all 4 = .ok (.iconst 5, 1) := by decide +kernel
theorem dX11_all_5 : decode cX11_all 5 = .ok (.iaload, 1) := by decide +kernel
theorem dX11_all_6 : decode cX11_all 6 = .ok (.ifCond .le 16, 3) := by decide +kernel
theorem dX11_all_9 : decode cX11_all 9 = .ok (.aload_n 0, 1) := by decide +kernel
theorem dX11_all_10 : decode cX11_all 10 = .ok (.aload_n 0, 1) := by decide +kernel
theorem dX11_all_11 : decode cX11_all 11 = .ok (.getfield 9, 3) := by decide +kernel
theorem dX11_all_14 : decode cX11_all 14 = .ok (.iconst 0, 1) := by decide +kernel
theorem dX11_all_15 : decode cX11_all 15 = .ok (.iaload, 1) := by decide +kernel
theorem dX11_all_16 : decode cX11_all 16 = .ok (.invokevirtual 296, 3) := by decide +kernel
theorem dX11_all_19 : decode cX11_all 19 = .ok (.goto 5, 3) := by decide +kernel
theorem dX11_all_22 : decode cX11_all 22 = .ok (.bipush (-2), 2) := by decide +kernel
theorem dX11_all_24 : decode cX11_all 24 = .ok (.ireturn, 1) := by decide +kernel
theorem dX11_by_0 : decode cX11_by 0 = .ok (.aload_n 0, 1) := by decide +kernel
theorem dX11_by_1 : decode cX11_by 1 = .ok (.iload_n 2, 1) := by decide +kernel
theorem dX11_by_2 : decode cX11_by 2 = .ok (.invokevirtual 171, 3) := by decide +kernel
theorem dX11_by_5 : decode cX11_by 5 = .ok (.ifCond .eq 13, 3) := by decide +kernel
theorem dX11_by_8 : decode cX11_by 8 = .ok (.iload_n 1, 1) := by decide +kernel
theorem dX11_by_9 : decode cX11_by 9 = .ok (.i2l, 1) := by decide +kernel
theorem dX11_by_10 : decode cX11_by 10 = .ok (.lconst 0, 1) := by decide +kernel
theorem dX11_by_11 : decode cX11_by 11 = .ok (.lconst 1, 1) := by decide +kernel
theorem dX11_by_12 : decode cX11_by 12 = .ok (.invokestatic 78, 3) := by decide +kernel
theorem dX11_by_15 : decode cX11_by 15 = .ok (.ifCond .ne 6, 3) := by decide +kernel
theorem dX11_by_18 : decode cX11_by 18 = .ok (.bipush (-2), 2) := by decide +kernel
theorem dX11_by_20 : decode cX11_by 20 = .ok (.ireturn, 1) := by decide +kernel
theorem dX11_by_21 : decode cX11_by 21 = .ok (.aload_n 0, 1) := by decide +kernel
theorem dX11_by_22 : decode cX11_by 22 = .ok (.iload_n 1, 1) := by decide +kernel
theorem dX11_by_23 : decode cX11_by 23 = .ok (.iconst (-1), 1) := by decide +kernel
theorem dX11_by_24 : decode cX11_by 24 = .ok (.invokevirtual 179, 3) := by decide +kernel
theorem dX11_by_27 : decode cX11_by 27 = .ok (.aload_n 0, 1) := by decide +kernel
theorem dX11_by_28 : decode cX11_by 28 = .ok (.getfield 51, 3) := by decide +kernel
theorem dX11_by_31 : decode cX11_by 31 = .ok (.iload_n 2, 1) := by decide +kernel
theorem dX11_by_32 : decode cX11_by 32 = .ok (.iaload, 1) := by decide +kernel
theorem dX11_by_33 : decode cX11_by 33 = .ok (.ireturn, 1) := by decide +kernel
theorem dX11_lean_0 : decode cX11_lean 0 = .ok (.aload_n 0, 1) := by decide +kernel
theorem dX11_lean_1 : decode cX11_lean 1 = .ok (.getfield 9, 3) := by decide +kernel
theorem dX11_lean_4 : decode cX11_lean 4 = .ok (.iconst 5, 1) := by decide +kernel
theorem dX11_lean_5 : decode cX11_lean 5 = .ok (.iaload, 1) := by decide +kernel
theorem dX11_lean_6 : decode cX11_lean 6 = .ok (.ifCond .ne 8, 3) := by decide +kernel
theorem dX11_lean_9 : decode cX11_lean 9 = .ok (.bipush (-2), 2) := by decide +kernel
theorem dX11_lean_11 : decode cX11_lean 11 = .ok (.goto 21, 3) := by decide +kernel
theorem dX11_lean_14 : decode cX11_lean 14 = .ok (.aload_n 0, 1) := by decide +kernel
theorem dX11_lean_15 : decode cX11_lean 15 = .ok (.iconst 1, 1) := by decide +kernel
theorem dX11_lean_16 : decode cX11_lean 16 = .ok (.invokevirtual 296, 3) := by decide +kernel
theorem dX11_lean_19 : decode cX11_lean 19 = .ok (.aload_n 0, 1) := by decide +kernel
theorem dX11_lean_20 : decode cX11_lean 20 = .ok (.iconst 0, 1) := by decide +kernel
theorem dX11_lean_21 : decode cX11_lean 21 = .ok (.invokevirtual 296, 3) := by decide +kernel
theorem dX11_lean_24 : decode cX11_lean 24 = .ok (.if_icmp .ge 7, 3) := by decide +kernel
theorem dX11_lean_27 : decode cX11_lean 27 = .ok (.iconst 1, 1) := by decide +kernel
theorem dX11_lean_28 : decode cX11_lean 28 = .ok (.goto 4, 3) := by decide +kernel
theorem dX11_lean_31 : decode cX11_lean 31 = .ok (.iconst 0, 1) := by decide +kernel
theorem dX11_lean_32 : decode cX11_lean 32 = .ok (.ireturn, 1) := by decide +kernel
theorem dX11_drained_0 : decode cX11_drained 0 = .ok (.aload_n 0, 1) := by decide +kernel
theorem dX11_drained_1 : decode cX11_drained 1 = .ok (.iload_n 1, 1) := by decide +kernel
theorem dX11_drained_2 : decode cX11_drained 2 = .ok (.invokevirtual 251, 3) := by decide +kernel
theorem dX11_drained_5 : decode cX11_drained 5 = .ok (.istore_n 3, 1) := by decide +kernel
theorem dX11_drained_6 : decode cX11_drained 6 = .ok (.iconst 0, 1) := by decide +kernel
theorem dX11_drained_7 : decode cX11_drained 7 = .ok (.istore 4, 2) := by decide +kernel
theorem dX11_drained_9 : decode cX11_drained 9 = .ok (.iconst 0, 1) := by decide +kernel
theorem dX11_drained_10 : decode cX11_drained 10 = .ok (.istore 5, 2) := by decide +kernel
theorem dX11_drained_12 : decode cX11_drained 12 = .ok (.iload_n 3, 1) := by decide +kernel
theorem dX11_drained_13 : decode cX11_drained 13 = .ok (.ifCond .lt 43, 3) := by decide +kernel
theorem dX11_drained_16 : decode cX11_drained 16 = .ok (.aload_n 0, 1) := by decide +kernel
theorem dX11_drained_17 : decode cX11_drained 17 = .ok (.iconst 0, 1) := by decide +kernel
theorem dX11_drained_18 : decode cX11_drained 18 = .ok (.putfield 198, 3) := by decide +kernel
theorem dX11_drained_21 : decode cX11_drained 21 = .ok (.aload_n 0, 1) := by decide +kernel
theorem dX11_drained_22 : decode cX11_drained 22 = .ok (.aload_n 0, 1) := by decide +kernel
theorem dX11_drained_23 : decode cX11_drained 23 = .ok (.getfield 9, 3) := by decide +kernel
theorem dX11_drained_26 : decode cX11_drained 26 = .ok (.iconst 0, 1) := by decide +kernel
theorem dX11_drained_27 : decode cX11_drained 27 = .ok (.iaload, 1) := by decide +kernel
theorem dX11_drained_28 : decode cX11_drained 28 = .ok (.iload_n 3, 1) := by decide +kernel
theorem dX11_drained_29 : decode cX11_drained 29 = .ok (.invokevirtual 239, 3) := by decide +kernel
theorem dX11_drained_32 : decode cX11_drained 32 = .ok (.istore_n 3, 1) := by decide +kernel
theorem dX11_drained_33 : decode cX11_drained 33 = .ok (.iload 4, 2) := by decide +kernel
theorem dX11_drained_35 : decode cX11_drained 35 = .ok (.aload_n 0, 1) := by decide +kernel
theorem dX11_drained_36 : decode cX11_drained 36 = .ok (.getfield 198, 3) := by decide +kernel
theorem dX11_drained_39 : decode cX11_drained 39 = .ok (.iadd, 1) := by decide +kernel
theorem dX11_drained_40 : decode cX11_drained 40 = .ok (.istore 4, 2) := by decide +kernel
theorem dX11_drained_42 : decode cX11_drained 42 = .ok (.iload 5, 2) := by decide +kernel
theorem dX11_drained_44 : decode cX11_drained 44 = .ok (.aload_n 0, 1) := by decide +kernel
theorem dX11_drained_45 : decode cX11_drained 45 = .ok (.getfield 198, 3) := by decide +kernel
theorem dX11_drained_48 : decode cX11_drained 48 = .ok (.invokestatic 275, 3) := by decide +kernel
theorem dX11_drained_51 : decode cX11_drained 51 = .ok (.istore 5, 2) := by decide +kernel
theorem dX11_drained_53 : decode cX11_drained 53 = .ok (.goto (-41), 3) := by decide +kernel
theorem dX11_drained_56 : decode cX11_drained 56 = .ok (.iload_n 2, 1) := by decide +kernel
theorem dX11_drained_57 : decode cX11_drained 57 = .ok (.ifCond .eq 8, 3) := by decide +kernel
theorem dX11_drained_60 : decode cX11_drained 60 = .ok (.iload 5, 2) := by decide +kernel
theorem dX11_drained_62 : decode cX11_drained 62 = .ok (.goto 5, 3) := by decide +kernel
theorem dX11_drained_65 : decode cX11_drained 65 = .ok (.iload 4, 2) := by decide +kernel
theorem dX11_drained_67 : decode cX11_drained 67 = .ok (.ireturn, 1) := by decide +kernel
theorem dX11_drain_0 : decode cX11_drain 0 = .ok (.aload_n 0, 1) := by decide +kernel
theorem dX11_drain_1 : decode cX11_drain 1 = .ok (.iload_n 1, 1) := by decide +kernel
theorem dX11_drain_2 : decode cX11_drain 2 = .ok (.invokevirtual 171, 3) := by decide +kernel
theorem dX11_drain_5 : decode cX11_drain 5 = .ok (.ifCond .eq 12, 3) := by decide +kernel
theorem dX11_drain_8 : decode cX11_drain 8 = .ok (.aload_n 0, 1) := by decide +kernel
theorem dX11_drain_9 : decode cX11_drain 9 = .ok (.iload_n 1, 1) := by decide +kernel
theorem dX11_drain_10 : decode cX11_drain 10 = .ok (.iconst 0, 1) := by decide +kernel
theorem dX11_drain_11 : decode cX11_drain 11 = .ok (.invokevirtual 299, 3) := by decide +kernel
theorem dX11_drain_14 : decode cX11_drain 14 = .ok (.goto 5, 3) := by decide +kernel
theorem dX11_drain_17 : decode cX11_drain 17 = .ok (.bipush (-2), 2) := by decide +kernel
theorem dX11_drain_19 : decode cX11_drain 19 = .ok (.ireturn, 1) := by decide +kernel
theorem dX11_dearest_0 : decode cX11_dearest 0 = .ok (.aload_n 0, 1) := by decide +kernel
theorem dX11_dearest_1 : decode cX11_dearest 1 = .ok (.iload_n 1, 1) := by decide +kernel
theorem dX11_dearest_2 : decode cX11_dearest 2 = .ok (.invokevirtual 171, 3) := by decide +kernel
theorem dX11_dearest_5 : decode cX11_dearest 5 = .ok (.ifCond .eq 12, 3) := by decide +kernel
theorem dX11_dearest_8 : decode cX11_dearest 8 = .ok (.aload_n 0, 1) := by decide +kernel
theorem dX11_dearest_9 : decode cX11_dearest 9 = .ok (.iload_n 1, 1) := by decide +kernel
theorem dX11_dearest_10 : decode cX11_dearest 10 = .ok (.iconst 1, 1) := by decide +kernel
theorem dX11_dearest_11 : decode cX11_dearest 11 = .ok (.invokevirtual 299, 3) := by decide +kernel
theorem dX11_dearest_14 : decode cX11_dearest 14 = .ok (.goto 5, 3) := by decide +kernel
theorem dX11_dearest_17 : decode cX11_dearest 17 = .ok (.bipush (-2), 2) := by decide +kernel
theorem dX11_dearest_19 : decode cX11_dearest 19 = .ok (.ireturn, 1) := by decide +kernel
theorem dX11_moreOf_0 : decode cX11_moreOf 0 = .ok (.aload_n 0, 1) := by decide +kernel
theorem dX11_moreOf_1 : decode cX11_moreOf 1 = .ok (.iload_n 1, 1) := by decide +kernel
theorem dX11_moreOf_2 : decode cX11_moreOf 2 = .ok (.invokevirtual 251, 3) := by decide +kernel
theorem dX11_moreOf_5 : decode cX11_moreOf 5 = .ok (.istore_n 3, 1) := by decide +kernel
theorem dX11_moreOf_6 : decode cX11_moreOf 6 = .ok (.aload_n 0, 1) := by decide +kernel
theorem dX11_moreOf_7 : decode cX11_moreOf 7 = .ok (.iload_n 3, 1) := by decide +kernel
theorem dX11_moreOf_8 : decode cX11_moreOf 8 = .ok (.invokevirtual 248, 3) := by decide +kernel
theorem dX11_moreOf_11 : decode cX11_moreOf 11 = .ok (.pop, 1) := by decide +kernel
theorem dX11_moreOf_12 : decode cX11_moreOf 12 = .ok (.bipush 30, 2) := by decide +kernel
theorem dX11_moreOf_14 : decode cX11_moreOf 14 = .ok (.newarray .int, 2) := by decide +kernel
theorem dX11_moreOf_16 : decode cX11_moreOf 16 = .ok (.astore 4, 2) := by decide +kernel
theorem dX11_moreOf_18 : decode cX11_moreOf 18 = .ok (.iconst 0, 1) := by decide +kernel
theorem dX11_moreOf_19 : decode cX11_moreOf 19 = .ok (.istore 5, 2) := by decide +kernel
theorem dX11_moreOf_21 : decode cX11_moreOf 21 = .ok (.iload 5, 2) := by decide +kernel
theorem dX11_moreOf_23 : decode cX11_moreOf 23 = .ok (.bipush 30, 2) := by decide +kernel
theorem dX11_moreOf_25 : decode cX11_moreOf 25 = .ok (.if_icmp .ge 21, 3) := by decide +kernel
theorem dX11_moreOf_28 : decode cX11_moreOf 28 = .ok (.aload 4, 2) := by decide +kernel
theorem dX11_moreOf_30 : decode cX11_moreOf 30 = .ok (.iload 5, 2) := by decide +kernel
theorem dX11_moreOf_32 : decode cX11_moreOf 32 = .ok (.aload_n 0, 1) := by decide +kernel
theorem dX11_moreOf_33 : decode cX11_moreOf 33 = .ok (.getfield 54, 3) := by decide +kernel
theorem dX11_moreOf_36 : decode cX11_moreOf 36 = .ok (.iload 5, 2) := by decide +kernel
theorem dX11_moreOf_38 : decode cX11_moreOf 38 = .ok (.iaload, 1) := by decide +kernel
theorem dX11_moreOf_39 : decode cX11_moreOf 39 = .ok (.iastore, 1) := by decide +kernel
theorem dX11_moreOf_40 : decode cX11_moreOf 40 = .ok (.iinc 5 1, 3) := by decide +kernel
theorem dX11_moreOf_43 : decode cX11_moreOf 43 = .ok (.goto (-22), 3) := by decide +kernel
theorem dX11_moreOf_46 : decode cX11_moreOf 46 = .ok (.aload_n 0, 1) := by decide +kernel
theorem dX11_moreOf_47 : decode cX11_moreOf 47 = .ok (.aload_n 0, 1) := by decide +kernel
theorem dX11_moreOf_48 : decode cX11_moreOf 48 = .ok (.getfield 48, 3) := by decide +kernel
theorem dX11_moreOf_51 : decode cX11_moreOf 51 = .ok (.iload_n 2, 1) := by decide +kernel
theorem dX11_moreOf_52 : decode cX11_moreOf 52 = .ok (.iaload, 1) := by decide +kernel
theorem dX11_moreOf_53 : decode cX11_moreOf 53 = .ok (.invokevirtual 248, 3) := by decide +kernel
theorem dX11_moreOf_56 : decode cX11_moreOf 56 = .ok (.pop, 1) := by decide +kernel
theorem dX11_moreOf_57 : decode cX11_moreOf 57 = .ok (.iconst 0, 1) := by decide +kernel
theorem dX11_moreOf_58 : decode cX11_moreOf 58 = .ok (.istore 5, 2) := by decide +kernel
theorem dX11_moreOf_60 : decode cX11_moreOf 60 = .ok (.iconst 0, 1) := by decide +kernel
theorem dX11_moreOf_61 : decode cX11_moreOf 61 = .ok (.istore 6, 2) := by decide +kernel
theorem dX11_moreOf_63 : decode cX11_moreOf 63 = .ok (.iload 6, 2) := by decide +kernel
theorem dX11_moreOf_65 : decode cX11_moreOf 65 = .ok (.bipush 30, 2) := by decide +kernel
theorem dX11_moreOf_67 : decode cX11_moreOf 67 = .ok (.if_icmp .ge 31, 3) := by decide +kernel
theorem dX11_moreOf_70 : decode cX11_moreOf 70 = .ok (.iload 5, 2) := by decide +kernel
theorem dX11_moreOf_72 : decode cX11_moreOf 72 = .ok (.iconst 0, 1) := by decide +kernel
theorem dX11_moreOf_73 : decode cX11_moreOf 73 = .ok (.aload 4, 2) := by decide +kernel
theorem dX11_moreOf_75 : decode cX11_moreOf 75 = .ok (.iload 6, 2) := by decide +kernel
theorem dX11_moreOf_77 : decode cX11_moreOf 77 = .ok (.iaload, 1) := by decide +kernel
theorem dX11_moreOf_78 : decode cX11_moreOf 78 = .ok (.aload_n 0, 1) := by decide +kernel
theorem dX11_moreOf_79 : decode cX11_moreOf 79 = .ok (.getfield 54, 3) := by decide +kernel
theorem dX11_moreOf_82 : decode cX11_moreOf 82 = .ok (.iload 6, 2) := by decide +kernel
theorem dX11_moreOf_84 : decode cX11_moreOf 84 = .ok (.iaload, 1) := by decide +kernel
theorem dX11_moreOf_85 : decode cX11_moreOf 85 = .ok (.isub, 1) := by decide +kernel
theorem dX11_moreOf_86 : decode cX11_moreOf 86 = .ok (.invokestatic 275, 3) := by decide +kernel
theorem dX11_moreOf_89 : decode cX11_moreOf 89 = .ok (.iadd, 1) := by decide +kernel
theorem dX11_moreOf_90 : decode cX11_moreOf 90 = .ok (.istore 5, 2) := by decide +kernel
theorem dX11_moreOf_92 : decode cX11_moreOf 92 = .ok (.iinc 6 1, 3) := by decide +kernel
theorem dX11_moreOf_95 : decode cX11_moreOf 95 = .ok (.goto (-32), 3) := by decide +kernel
theorem dX11_moreOf_98 : decode cX11_moreOf 98 = .ok (.iload 5, 2) := by decide +kernel
theorem dX11_moreOf_100 : decode cX11_moreOf 100 = .ok (.ireturn, 1) := by decide +kernel
theorem dX11_same_0 : decode cX11_same 0 = .ok (.aload_n 0, 1) := by decide +kernel
theorem dX11_same_1 : decode cX11_same 1 = .ok (.iload_n 1, 1) := by decide +kernel
theorem dX11_same_2 : decode cX11_same 2 = .ok (.invokevirtual 171, 3) := by decide +kernel
theorem dX11_same_5 : decode cX11_same 5 = .ok (.ifCond .eq 11, 3) := by decide +kernel
theorem dX11_same_8 : decode cX11_same 8 = .ok (.aload_n 0, 1) := by decide +kernel
theorem dX11_same_9 : decode cX11_same 9 = .ok (.iload_n 2, 1) := by decide +kernel
theorem dX11_same_10 : decode cX11_same 10 = .ok (.invokevirtual 171, 3) := by decide +kernel
theorem dX11_same_13 : decode cX11_same 13 = .ok (.ifCond .ne 6, 3) := by decide +kernel
theorem dX11_same_16 : decode cX11_same 16 = .ok (.bipush (-2), 2) := by decide +kernel
theorem dX11_same_18 : decode cX11_same 18 = .ok (.ireturn, 1) := by decide +kernel
theorem dX11_same_19 : decode cX11_same 19 = .ok (.aload_n 0, 1) := by decide +kernel
theorem dX11_same_20 : decode cX11_same 20 = .ok (.iload_n 1, 1) := by decide +kernel
theorem dX11_same_21 : decode cX11_same 21 = .ok (.iload_n 2, 1) := by decide +kernel
theorem dX11_same_22 : decode cX11_same 22 = .ok (.invokevirtual 303, 3) := by decide +kernel
theorem dX11_same_25 : decode cX11_same 25 = .ok (.ifCond .ne 16, 3) := by decide +kernel
theorem dX11_same_28 : decode cX11_same 28 = .ok (.aload_n 0, 1) := by decide +kernel
theorem dX11_same_29 : decode cX11_same 29 = .ok (.iload_n 2, 1) := by decide +kernel
theorem dX11_same_30 : decode cX11_same 30 = .ok (.iload_n 1, 1) := by decide +kernel
theorem dX11_same_31 : decode cX11_same 31 = .ok (.invokevirtual 303, 3) := by decide +kernel
theorem dX11_same_34 : decode cX11_same 34 = .ok (.ifCond .ne 7, 3) := by decide +kernel
theorem dX11_same_37 : decode cX11_same 37 = .ok (.iconst 1, 1) := by decide +kernel
theorem dX11_same_38 : decode cX11_same 38 = .ok (.goto 4, 3) := by decide +kernel
theorem dX11_same_41 : decode cX11_same 41 = .ok (.iconst 0, 1) := by decide +kernel
theorem dX11_same_42 : decode cX11_same 42 = .ok (.ireturn, 1) := by decide +kernel
theorem dX11_more_0 : decode cX11_more 0 = .ok (.aload_n 0, 1) := by decide +kernel
theorem dX11_more_1 : decode cX11_more 1 = .ok (.iload_n 1, 1) := by decide +kernel
theorem dX11_more_2 : decode cX11_more 2 = .ok (.invokevirtual 171, 3) := by decide +kernel
theorem dX11_more_5 : decode cX11_more 5 = .ok (.ifCond .eq 20, 3) := by decide +kernel
theorem dX11_more_8 : decode cX11_more 8 = .ok (.aload_n 0, 1) := by decide +kernel
theorem dX11_more_9 : decode cX11_more 9 = .ok (.iload_n 2, 1) := by decide +kernel
theorem dX11_more_10 : decode cX11_more 10 = .ok (.invokevirtual 171, 3) := by decide +kernel
theorem dX11_more_13 : decode cX11_more 13 = .ok (.ifCond .eq 12, 3) := by decide +kernel
theorem dX11_more_16 : decode cX11_more 16 = .ok (.aload_n 0, 1) := by decide +kernel
theorem dX11_more_17 : decode cX11_more 17 = .ok (.iload_n 1, 1) := by decide +kernel
theorem dX11_more_18 : decode cX11_more 18 = .ok (.iload_n 2, 1) := by decide +kernel
theorem dX11_more_19 : decode cX11_more 19 = .ok (.invokevirtual 303, 3) := by decide +kernel
theorem dX11_more_22 : decode cX11_more 22 = .ok (.goto 5, 3) := by decide +kernel
theorem dX11_more_25 : decode cX11_more 25 = .ok (.bipush (-2), 2) := by decide +kernel
theorem dX11_more_27 : decode cX11_more 27 = .ok (.ireturn, 1) := by decide +kernel
theorem dX11_madeOf_0 : decode cX11_madeOf 0 = .ok (.iconst 1, 1) := by decide +kernel
theorem dX11_madeOf_1 : decode cX11_madeOf 1 = .ok (.iload_n 1, 1) := by decide +kernel
theorem dX11_madeOf_2 : decode cX11_madeOf 2 = .ok (.ishl, 1) := by decide +kernel
theorem dX11_madeOf_3 : decode cX11_madeOf 3 = .ok (.istore_n 2, 1) := by decide +kernel
theorem dX11_madeOf_4 : decode cX11_madeOf 4 = .ok (.iload_n 1, 1) := by decide +kernel
theorem dX11_madeOf_5 : decode cX11_madeOf 5 = .ok (.istore_n 3, 1) := by decide +kernel
theorem dX11_madeOf_6 : decode cX11_madeOf 6 = .ok (.iload_n 3, 1) := by decide +kernel
theorem dX11_madeOf_7 : decode cX11_madeOf 7 = .ok (.ifCond .lt 75, 3) := by decide +kernel
theorem dX11_madeOf_10 : decode cX11_madeOf 10 = .ok (.iload_n 2, 1) := by decide +kernel
theorem dX11_madeOf_11 : decode cX11_madeOf 11 = .ok (.iload_n 3, 1) := by decide +kernel
theorem dX11_madeOf_12 : decode cX11_madeOf 12 = .ok (.ishr, 1) := by decide +kernel
theorem dX11_madeOf_13 : decode cX11_madeOf 13 = .ok (.iconst 1, 1) := by decide +kernel
theorem dX11_madeOf_14 : decode cX11_madeOf 14 = .ok (.iand, 1) := by decide +kernel
theorem dX11_madeOf_15 : decode cX11_madeOf 15 = .ok (.iconst 1, 1) := by decide +kernel
theorem dX11_madeOf_16 : decode cX11_madeOf 16 = .ok (.if_icmp .ne 60, 3) := by decide +kernel
theorem dX11_madeOf_19 : decode cX11_madeOf 19 = .ok (.aload_n 0, 1) := by decide +kernel
theorem dX11_madeOf_20 : decode cX11_madeOf 20 = .ok (.getfield 9, 3) := by decide +kernel
theorem dX11_madeOf_23 : decode cX11_madeOf 23 = .ok (.bipush 6, 2) := by decide +kernel
theorem dX11_madeOf_25 : decode cX11_madeOf 25 = .ok (.iload_n 3, 1) := by decide +kernel
theorem dX11_madeOf_26 : decode cX11_madeOf 26 = .ok (.iadd, 1) := by decide +kernel
theorem dX11_madeOf_27 : decode cX11_madeOf 27 = .ok (.iaload, 1) := by decide +kernel
theorem dX11_madeOf_28 : decode cX11_madeOf 28 = .ok (.ifCond .eq 48, 3) := by decide +kernel
theorem dX11_madeOf_31 : decode cX11_madeOf 31 = .ok (.iload_n 2, 1) := by decide +kernel
theorem dX11_madeOf_32 : decode cX11_madeOf 32 = .ok (.iconst 1, 1) := by decide +kernel
theorem dX11_madeOf_33 : decode cX11_madeOf 33 = .ok (.aload_n 0, 1) := by decide +kernel
theorem dX11_madeOf_34 : decode cX11_madeOf 34 = .ok (.getfield 9, 3) := by decide +kernel
theorem dX11_madeOf_37 : decode cX11_madeOf 37 = .ok (.bipush 36, 2) := by decide +kernel
theorem dX11_madeOf_39 : decode cX11_madeOf 39 = .ok (.iload_n 3, 1) := by decide +kernel
theorem dX11_madeOf_40 : decode cX11_madeOf 40 = .ok (.iadd, 1) := by decide +kernel
theorem dX11_madeOf_41 : decode cX11_madeOf 41 = .ok (.iaload, 1) := by decide +kernel
theorem dX11_madeOf_42 : decode cX11_madeOf 42 = .ok (.ishl, 1) := by decide +kernel
theorem dX11_madeOf_43 : decode cX11_madeOf 43 = .ok (.ior, 1) := by decide +kernel
theorem dX11_madeOf_44 : decode cX11_madeOf 44 = .ok (.istore_n 2, 1) := by decide +kernel
theorem dX11_madeOf_45 : decode cX11_madeOf 45 = .ok (.iload_n 2, 1) := by decide +kernel
theorem dX11_madeOf_46 : decode cX11_madeOf 46 = .ok (.aload_n 0, 1) := by decide +kernel
theorem dX11_madeOf_47 : decode cX11_madeOf 47 = .ok (.getfield 9, 3) := by decide +kernel
theorem dX11_madeOf_50 : decode cX11_madeOf 50 = .ok (.bipush 6, 2) := by decide +kernel
theorem dX11_madeOf_52 : decode cX11_madeOf 52 = .ok (.iload_n 3, 1) := by decide +kernel
theorem dX11_madeOf_53 : decode cX11_madeOf 53 = .ok (.iadd, 1) := by decide +kernel
theorem dX11_madeOf_54 : decode cX11_madeOf 54 = .ok (.iaload, 1) := by decide +kernel
theorem dX11_madeOf_55 : decode cX11_madeOf 55 = .ok (.iconst 2, 1) := by decide +kernel
theorem dX11_madeOf_56 : decode cX11_madeOf 56 = .ok (.if_icmp .ne 17, 3) := by decide +kernel
theorem dX11_madeOf_59 : decode cX11_madeOf 59 = .ok (.iconst 1, 1) := by decide +kernel
theorem dX11_madeOf_60 : decode cX11_madeOf 60 = .ok (.aload_n 0, 1) := by decide +kernel
theorem dX11_madeOf_61 : decode cX11_madeOf 61 = .ok (.getfield 9, 3) := by decide +kernel
theorem dX11_madeOf_64 : decode cX11_madeOf 64 = .ok (.bipush 66, 2) := by decide +kernel
theorem dX11_madeOf_66 : decode cX11_madeOf 66 = .ok (.iload_n 3, 1) := by decide +kernel
theorem dX11_madeOf_67 : decode cX11_madeOf 67 = .ok (.iadd, 1) := by decide +kernel
theorem dX11_madeOf_68 : decode cX11_madeOf 68 = .ok (.iaload, 1) := by decide +kernel
theorem dX11_madeOf_69 : decode cX11_madeOf 69 = .ok (.ishl, 1) := by decide +kernel
theorem dX11_madeOf_70 : decode cX11_madeOf 70 = .ok (.goto 4, 3) := by decide +kernel
theorem dX11_madeOf_73 : decode cX11_madeOf 73 = .ok (.iconst 0, 1) := by decide +kernel
theorem dX11_madeOf_74 : decode cX11_madeOf 74 = .ok (.ior, 1) := by decide +kernel
theorem dX11_madeOf_75 : decode cX11_madeOf 75 = .ok (.istore_n 2, 1) := by decide +kernel
theorem dX11_madeOf_76 : decode cX11_madeOf 76 = .ok (.iinc 3 (-1), 3) := by decide +kernel
theorem dX11_madeOf_79 : decode cX11_madeOf 79 = .ok (.goto (-73), 3) := by decide +kernel
theorem dX11_madeOf_82 : decode cX11_madeOf 82 = .ok (.iload_n 2, 1) := by decide +kernel
theorem dX11_madeOf_83 : decode cX11_madeOf 83 = .ok (.ireturn, 1) := by decide +kernel
theorem dX11_isFrom_0 : decode cX11_isFrom 0 = .ok (.aload_n 0, 1) := by decide +kernel
theorem dX11_isFrom_1 : decode cX11_isFrom 1 = .ok (.iload_n 1, 1) := by decide +kernel
theorem dX11_isFrom_2 : decode cX11_isFrom 2 = .ok (.invokevirtual 306, 3) := by decide +kernel
theorem dX11_isFrom_5 : decode cX11_isFrom 5 = .ok (.iload_n 2, 1) := by decide +kernel
theorem dX11_isFrom_6 : decode cX11_isFrom 6 = .ok (.ishr, 1) := by decide +kernel
theorem dX11_isFrom_7 : decode cX11_isFrom 7 = .ok (.iconst 1, 1) := by decide +kernel
theorem dX11_isFrom_8 : decode cX11_isFrom 8 = .ok (.iand, 1) := by decide +kernel
theorem dX11_isFrom_9 : decode cX11_isFrom 9 = .ok (.iconst 1, 1) := by decide +kernel
theorem dX11_isFrom_10 : decode cX11_isFrom 10 = .ok (.if_icmp .ne 7, 3) := by decide +kernel
theorem dX11_isFrom_13 : decode cX11_isFrom 13 = .ok (.iconst 1, 1) := by decide +kernel
theorem dX11_isFrom_14 : decode cX11_isFrom 14 = .ok (.goto 4, 3) := by decide +kernel
theorem dX11_isFrom_17 : decode cX11_isFrom 17 = .ok (.iconst 0, 1) := by decide +kernel
theorem dX11_isFrom_18 : decode cX11_isFrom 18 = .ok (.ireturn, 1) := by decide +kernel
theorem dX11_from_0 : decode cX11_from 0 = .ok (.aload_n 0, 1) := by decide +kernel
theorem dX11_from_1 : decode cX11_from 1 = .ok (.iload_n 1, 1) := by decide +kernel
theorem dX11_from_2 : decode cX11_from 2 = .ok (.invokevirtual 171, 3) := by decide +kernel
theorem dX11_from_5 : decode cX11_from 5 = .ok (.ifCond .eq 11, 3) := by decide +kernel
theorem dX11_from_8 : decode cX11_from 8 = .ok (.aload_n 0, 1) := by decide +kernel
theorem dX11_from_9 : decode cX11_from 9 = .ok (.iload_n 2, 1) := by decide +kernel
theorem dX11_from_10 : decode cX11_from 10 = .ok (.invokevirtual 171, 3) := by decide +kernel
theorem dX11_from_13 : decode cX11_from 13 = .ok (.ifCond .ne 6, 3) := by decide +kernel
theorem dX11_from_16 : decode cX11_from 16 = .ok (.bipush (-2), 2) := by decide +kernel
theorem dX11_from_18 : decode cX11_from 18 = .ok (.ireturn, 1) := by decide +kernel
theorem dX11_from_19 : decode cX11_from 19 = .ok (.aload_n 0, 1) := by decide +kernel
theorem dX11_from_20 : decode cX11_from 20 = .ok (.iload_n 1, 1) := by decide +kernel
theorem dX11_from_21 : decode cX11_from 21 = .ok (.iload_n 2, 1) := by decide +kernel
theorem dX11_from_22 : decode cX11_from 22 = .ok (.invokevirtual 309, 3) := by decide +kernel
theorem dX11_from_25 : decode cX11_from 25 = .ok (.ifCond .eq 7, 3) := by decide +kernel
theorem dX11_from_28 : decode cX11_from 28 = .ok (.iconst 1, 1) := by decide +kernel
theorem dX11_from_29 : decode cX11_from 29 = .ok (.goto 4, 3) := by decide +kernel
theorem dX11_from_32 : decode cX11_from 32 = .ok (.iconst 0, 1) := by decide +kernel
theorem dX11_from_33 : decode cX11_from 33 = .ok (.ireturn, 1) := by decide +kernel
theorem dX11_roots_0 : decode cX11_roots 0 = .ok (.aload_n 0, 1) := by decide +kernel
theorem dX11_roots_1 : decode cX11_roots 1 = .ok (.iload_n 1, 1) := by decide +kernel
theorem dX11_roots_2 : decode cX11_roots 2 = .ok (.invokevirtual 171, 3) := by decide +kernel
theorem dX11_roots_5 : decode cX11_roots 5 = .ok (.ifCond .ne 6, 3) := by decide +kernel
theorem dX11_roots_8 : decode cX11_roots 8 = .ok (.bipush (-2), 2) := by decide +kernel
theorem dX11_roots_10 : decode cX11_roots 10 = .ok (.ireturn, 1) := by decide +kernel
theorem dX11_roots_11 : decode cX11_roots 11 = .ok (.iconst 0, 1) := by decide +kernel
theorem dX11_roots_12 : decode cX11_roots 12 = .ok (.istore_n 2, 1) := by decide +kernel
theorem dX11_roots_13 : decode cX11_roots 13 = .ok (.iconst 0, 1) := by decide +kernel
theorem dX11_roots_14 : decode cX11_roots 14 = .ok (.istore_n 3, 1) := by decide +kernel
theorem dX11_roots_15 : decode cX11_roots 15 = .ok (.iload_n 3, 1) := by decide +kernel
theorem dX11_roots_16 : decode cX11_roots 16 = .ok (.iload_n 1, 1) := by decide +kernel
theorem dX11_roots_17 : decode cX11_roots 17 = .ok (.if_icmp .ge 26, 3) := by decide +kernel
theorem dX11_roots_20 : decode cX11_roots 20 = .ok (.iload_n 2, 1) := by decide +kernel
theorem dX11_roots_21 : decode cX11_roots 21 = .ok (.aload_n 0, 1) := by decide +kernel
theorem dX11_roots_22 : decode cX11_roots 22 = .ok (.iload_n 1, 1) := by decide +kernel
theorem dX11_roots_23 : decode cX11_roots 23 = .ok (.iload_n 3, 1) := by decide +kernel
theorem dX11_roots_24 : decode cX11_roots 24 = .ok (.invokevirtual 309, 3) := by decide +kernel
theorem dX11_roots_27 : decode cX11_roots 27 = .ok (.ifCond .eq 7, 3) := by decide +kernel
theorem dX11_roots_30 : decode cX11_roots 30 = .ok (.iconst 1, 1) := by decide +kernel
theorem dX11_roots_31 : decode cX11_roots 31 = .ok (.goto 4, 3) := by decide +kernel
theorem dX11_roots_34 : decode cX11_roots 34 = .ok (.iconst 0, 1) := by decide +kernel
theorem dX11_roots_35 : decode cX11_roots 35 = .ok (.iadd, 1) := by decide +kernel
theorem dX11_roots_36 : decode cX11_roots 36 = .ok (.istore_n 2, 1) := by decide +kernel
theorem dX11_roots_37 : decode cX11_roots 37 = .ok (.iinc 3 1, 3) := by decide +kernel
theorem dX11_roots_40 : decode cX11_roots 40 = .ok (.goto (-25), 3) := by decide +kernel
theorem dX11_roots_43 : decode cX11_roots 43 = .ok (.iload_n 2, 1) := by decide +kernel
theorem dX11_roots_44 : decode cX11_roots 44 = .ok (.ireturn, 1) := by decide +kernel
theorem dX11_isPut_0 : decode cX11_isPut 0 = .ok (.aload_n 0, 1) := by decide +kernel
theorem dX11_isPut_1 : decode cX11_isPut 1 = .ok (.iload_n 1, 1) := by decide +kernel
theorem dX11_isPut_2 : decode cX11_isPut 2 = .ok (.invokevirtual 171, 3) := by decide +kernel
theorem dX11_isPut_5 : decode cX11_isPut 5 = .ok (.ifCond .eq 28, 3) := by decide +kernel
theorem dX11_isPut_8 : decode cX11_isPut 8 = .ok (.aload_n 0, 1) := by decide +kernel
theorem dX11_isPut_9 : decode cX11_isPut 9 = .ok (.iload_n 2, 1) := by decide +kernel
theorem dX11_isPut_10 : decode cX11_isPut 10 = .ok (.invokevirtual 171, 3) := by decide +kernel
theorem dX11_isPut_13 : decode cX11_isPut 13 = .ok (.ifCond .eq 20, 3) := by decide +kernel
theorem dX11_isPut_16 : decode cX11_isPut 16 = .ok (.aload_n 0, 1) := by decide +kernel
theorem dX11_isPut_17 : decode cX11_isPut 17 = .ok (.getfield 9, 3) := by decide +kernel
theorem dX11_isPut_20 : decode cX11_isPut 20 = .ok (.bipush 6, 2) := by decide +kernel
theorem dX11_isPut_22 : decode cX11_isPut 22 = .ok (.iload_n 2, 1) := by decide +kernel
theorem dX11_isPut_23 : decode cX11_isPut 23 = .ok (.iadd, 1) := by decide +kernel
theorem dX11_isPut_24 : decode cX11_isPut 24 = .ok (.iaload, 1) := by decide +kernel
theorem dX11_isPut_25 : decode cX11_isPut 25 = .ok (.iconst 1, 1) := by decide +kernel
theorem dX11_isPut_26 : decode cX11_isPut 26 = .ok (.if_icmp .ne 7, 3) := by decide +kernel
theorem dX11_isPut_29 : decode cX11_isPut 29 = .ok (.iconst 1, 1) := by decide +kernel
theorem dX11_isPut_30 : decode cX11_isPut 30 = .ok (.goto 4, 3) := by decide +kernel
theorem dX11_isPut_33 : decode cX11_isPut 33 = .ok (.iconst 0, 1) := by decide +kernel
theorem dX11_isPut_34 : decode cX11_isPut 34 = .ok (.ireturn, 1) := by decide +kernel
theorem dX11_without_0 : decode cX11_without 0 = .ok (.aload_n 0, 1) := by decide +kernel
theorem dX11_without_1 : decode cX11_without 1 = .ok (.iload_n 1, 1) := by decide +kernel
theorem dX11_without_2 : decode cX11_without 2 = .ok (.iload_n 2, 1) := by decide +kernel
theorem dX11_without_3 : decode cX11_without 3 = .ok (.invokevirtual 312, 3) := by decide +kernel
theorem dX11_without_6 : decode cX11_without 6 = .ok (.ifCond .ne 6, 3) := by decide +kernel
theorem dX11_without_9 : decode cX11_without 9 = .ok (.bipush (-2), 2) := by decide +kernel
theorem dX11_without_11 : decode cX11_without 11 = .ok (.ireturn, 1) := by decide +kernel
theorem dX11_without_12 : decode cX11_without 12 = .ok (.aload_n 0, 1) := by decide +kernel
theorem dX11_without_13 : decode cX11_without 13 = .ok (.aload_n 0, 1) := by decide +kernel
theorem dX11_without_14 : decode cX11_without 14 = .ok (.getfield 9, 3) := by decide +kernel
theorem dX11_without_17 : decode cX11_without 17 = .ok (.iconst 0, 1) := by decide +kernel
theorem dX11_without_18 : decode cX11_without 18 = .ok (.iaload, 1) := by decide +kernel
theorem dX11_without_19 : decode cX11_without 19 = .ok (.iload_n 2, 1) := by decide +kernel
theorem dX11_without_20 : decode cX11_without 20 = .ok (.invokevirtual 179, 3) := by decide +kernel
theorem dX11_without_23 : decode cX11_without 23 = .ok (.aload_n 0, 1) := by decide +kernel
theorem dX11_without_24 : decode cX11_without 24 = .ok (.aload_n 0, 1) := by decide +kernel
theorem dX11_without_25 : decode cX11_without 25 = .ok (.getfield 48, 3) := by decide +kernel
theorem dX11_without_28 : decode cX11_without 28 = .ok (.iload_n 1, 1) := by decide +kernel
theorem dX11_without_29 : decode cX11_without 29 = .ok (.iaload, 1) := by decide +kernel
theorem dX11_without_30 : decode cX11_without 30 = .ok (.invokevirtual 254, 3) := by decide +kernel
theorem dX11_without_33 : decode cX11_without 33 = .ok (.ireturn, 1) := by decide +kernel
theorem dX11_left_0 : decode cX11_left 0 = .ok (.aload_n 0, 1) := by decide +kernel
theorem dX11_left_1 : decode cX11_left 1 = .ok (.iload_n 1, 1) := by decide +kernel
theorem dX11_left_2 : decode cX11_left 2 = .ok (.iload_n 2, 1) := by decide +kernel
theorem dX11_left_3 : decode cX11_left 3 = .ok (.invokevirtual 312, 3) := by decide +kernel
theorem dX11_left_6 : decode cX11_left 6 = .ok (.ifCond .ne 6, 3) := by decide +kernel
theorem dX11_left_9 : decode cX11_left 9 = .ok (.bipush (-2), 2) := by decide +kernel
theorem dX11_left_11 : decode cX11_left 11 = .ok (.ireturn, 1) := by decide +kernel
theorem dX11_left_12 : decode cX11_left 12 = .ok (.aload_n 0, 1) := by decide +kernel
theorem dX11_left_13 : decode cX11_left 13 = .ok (.aload_n 0, 1) := by decide +kernel
theorem dX11_left_14 : decode cX11_left 14 = .ok (.getfield 9, 3) := by decide +kernel
theorem dX11_left_17 : decode cX11_left 17 = .ok (.iconst 0, 1) := by decide +kernel
theorem dX11_left_18 : decode cX11_left 18 = .ok (.iaload, 1) := by decide +kernel
theorem dX11_left_19 : decode cX11_left 19 = .ok (.iload_n 2, 1) := by decide +kernel
theorem dX11_left_20 : decode cX11_left 20 = .ok (.invokevirtual 179, 3) := by decide +kernel
theorem dX11_left_23 : decode cX11_left 23 = .ok (.aload_n 0, 1) := by decide +kernel
theorem dX11_left_24 : decode cX11_left 24 = .ok (.aload_n 0, 1) := by decide +kernel
theorem dX11_left_25 : decode cX11_left 25 = .ok (.getfield 48, 3) := by decide +kernel
theorem dX11_left_28 : decode cX11_left 28 = .ok (.iload_n 1, 1) := by decide +kernel
theorem dX11_left_29 : decode cX11_left 29 = .ok (.iaload, 1) := by decide +kernel
theorem dX11_left_30 : decode cX11_left 30 = .ok (.invokevirtual 248, 3) := by decide +kernel
theorem dX11_left_33 : decode cX11_left 33 = .ok (.ireturn, 1) := by decide +kernel
theorem dX11_does_0 : decode cX11_does 0 = .ok (.aload_n 0, 1) := by decide +kernel
theorem dX11_does_1 : decode cX11_does 1 = .ok (.aload_n 0, 1) := by decide +kernel
theorem dX11_does_2 : decode cX11_does 2 = .ok (.iload_n 1, 1) := by decide +kernel
theorem dX11_does_3 : decode cX11_does 3 = .ok (.invokevirtual 251, 3) := by decide +kernel
theorem dX11_does_6 : decode cX11_does 6 = .ok (.invokevirtual 257, 3) := by decide +kernel
theorem dX11_does_9 : decode cX11_does 9 = .ok (.istore_n 3, 1) := by decide +kernel
theorem dX11_does_10 : decode cX11_does 10 = .ok (.iconst 0, 1) := by decide +kernel
theorem dX11_does_11 : decode cX11_does 11 = .ok (.istore 4, 2) := by decide +kernel
theorem dX11_does_13 : decode cX11_does 13 = .ok (.iload 4, 2) := by decide +kernel
theorem dX11_does_15 : decode cX11_does 15 = .ok (.iload_n 2, 1) := by decide +kernel
theorem dX11_does_16 : decode cX11_does 16 = .ok (.if_icmp .ge 17, 3) := by decide +kernel
theorem dX11_does_19 : decode cX11_does 19 = .ok (.aload_n 0, 1) := by decide +kernel
theorem dX11_does_20 : decode cX11_does 20 = .ok (.getfield 66, 3) := by decide +kernel
theorem dX11_does_23 : decode cX11_does 23 = .ok (.iload 4, 2) := by decide +kernel
theorem dX11_does_25 : decode cX11_does 25 = .ok (.iconst 0, 1) := by decide +kernel
theorem dX11_does_26 : decode cX11_does 26 = .ok (.iastore, 1) := by decide +kernel
theorem dX11_does_27 : decode cX11_does 27 = .ok (.iinc 4 1, 3) := by decide +kernel
theorem dX11_does_30 : decode cX11_does 30 = .ok (.goto (-17), 3) := by decide +kernel
theorem dX11_does_33 : decode cX11_does 33 = .ok (.iconst 0, 1) := by decide +kernel
theorem dX11_does_34 : decode cX11_does 34 = .ok (.istore 4, 2) := by decide +kernel
theorem dX11_does_36 : decode cX11_does 36 = .ok (.iload 4, 2) := by decide +kernel
theorem dX11_does_38 : decode cX11_does 38 = .ok (.iload_n 3, 1) := by decide +kernel
theorem dX11_does_39 : decode cX11_does 39 = .ok (.if_icmp .ge 102, 3) := by decide +kernel
theorem dX11_does_42 : decode cX11_does 42 = .ok (.iconst 0, 1) := by decide +kernel
theorem dX11_does_43 : decode cX11_does 43 = .ok (.istore 5, 2) := by decide +kernel
theorem dX11_does_45 : decode cX11_does 45 = .ok (.iconst 1, 1) := by decide +kernel
theorem dX11_does_46 : decode cX11_does 46 = .ok (.istore 6, 2) := by decide +kernel
theorem dX11_does_48 : decode cX11_does 48 = .ok (.iload 6, 2) := by decide +kernel
theorem dX11_does_50 : decode cX11_does 50 = .ok (.iload_n 2, 1) := by decide +kernel
theorem dX11_does_51 : decode cX11_does 51 = .ok (.if_icmp .ge 35, 3) := by decide +kernel
theorem dX11_does_54 : decode cX11_does 54 = .ok (.aload_n 0, 1) := by decide +kernel
theorem dX11_does_55 : decode cX11_does 55 = .ok (.getfield 66, 3) := by decide +kernel
theorem dX11_does_58 : decode cX11_does 58 = .ok (.iload 6, 2) := by decide +kernel
theorem dX11_does_60 : decode cX11_does 60 = .ok (.iaload, 1) := by decide +kernel
theorem dX11_does_61 : decode cX11_does 61 = .ok (.aload_n 0, 1) := by decide +kernel
theorem dX11_does_62 : decode cX11_does 62 = .ok (.getfield 66, 3) := by decide +kernel
theorem dX11_does_65 : decode cX11_does 65 = .ok (.iload 5, 2) := by decide +kernel
theorem dX11_does_67 : decode cX11_does 67 = .ok (.iaload, 1) := by decide +kernel
theorem dX11_does_68 : decode cX11_does 68 = .ok (.if_icmp .ge 8, 3) := by decide +kernel
theorem dX11_does_71 : decode cX11_does 71 = .ok (.iload 6, 2) := by decide +kernel
theorem dX11_does_73 : decode cX11_does 73 = .ok (.goto 5, 3) := by decide +kernel
theorem dX11_does_76 : decode cX11_does 76 = .ok (.iload 5, 2) := by decide +kernel
theorem dX11_does_78 : decode cX11_does 78 = .ok (.istore 5, 2) := by decide +kernel
theorem dX11_does_80 : decode cX11_does 80 = .ok (.iinc 6 1, 3) := by decide +kernel
theorem dX11_does_83 : decode cX11_does 83 = .ok (.goto (-35), 3) := by decide +kernel
theorem dX11_does_86 : decode cX11_does 86 = .ok (.aload_n 0, 1) := by decide +kernel
theorem dX11_does_87 : decode cX11_does 87 = .ok (.getfield 66, 3) := by decide +kernel
theorem dX11_does_90 : decode cX11_does 90 = .ok (.iload 5, 2) := by decide +kernel
theorem dX11_does_92 : decode cX11_does 92 = .ok (.dup2, 1) := by decide +kernel
theorem dX11_does_93 : decode cX11_does 93 = .ok (.iaload, 1) := by decide +kernel
theorem dX11_does_94 : decode cX11_does 94 = .ok (.aload_n 0, 1) := by decide +kernel
theorem dX11_does_95 : decode cX11_does 95 = .ok (.getfield 9, 3) := by decide +kernel
theorem dX11_does_98 : decode cX11_does 98 = .ok (.sipush 156, 3) := by decide +kernel
theorem dX11_does_101 : decode cX11_does 101 = .ok (.aload_n 0, 1) := by decide +kernel
theorem dX11_does_102 : decode cX11_does 102 = .ok (.getfield 57, 3) := by decide +kernel
theorem dX11_does_105 : decode cX11_does 105 = .ok (.iload 4, 2) := by decide +kernel
theorem dX11_does_107 : decode cX11_does 107 = .ok (.iaload, 1) := by decide +kernel
theorem dX11_does_108 : decode cX11_does 108 = .ok (.iadd, 1) := by decide +kernel
theorem dX11_does_109 : decode cX11_does 109 = .ok (.iaload, 1) := by decide +kernel
theorem dX11_does_110 : decode cX11_does 110 = .ok (.iadd, 1) := by decide +kernel
theorem dX11_does_111 : decode cX11_does 111 = .ok (.iastore, 1) := by decide +kernel
theorem dX11_does_112 : decode cX11_does 112 = .ok (.aload_n 0, 1) := by decide +kernel
theorem dX11_does_113 : decode cX11_does 113 = .ok (.getfield 69, 3) := by decide +kernel
theorem dX11_does_116 : decode cX11_does 116 = .ok (.iload 4, 2) := by decide +kernel
theorem dX11_does_118 : decode cX11_does 118 = .ok (.iload 5, 2) := by decide +kernel
theorem dX11_does_120 : decode cX11_does 120 = .ok (.iastore, 1) := by decide +kernel
theorem dX11_does_121 : decode cX11_does 121 = .ok (.aload_n 0, 1) := by decide +kernel
theorem dX11_does_122 : decode cX11_does 122 = .ok (.getfield 72, 3) := by decide +kernel
theorem dX11_does_125 : decode cX11_does 125 = .ok (.iload 4, 2) := by decide +kernel
theorem dX11_does_127 : decode cX11_does 127 = .ok (.aload_n 0, 1) := by decide +kernel
theorem dX11_does_128 : decode cX11_does 128 = .ok (.getfield 66, 3) := by decide +kernel
theorem dX11_does_131 : decode cX11_does 131 = .ok (.iload 5, 2) := by decide +kernel
theorem dX11_does_133 : decode cX11_does 133 = .ok (.iaload, 1) := by decide +kernel
theorem dX11_does_134 : decode cX11_does 134 = .ok (.iastore, 1) := by decide +kernel
theorem dX11_does_135 : decode cX11_does 135 = .ok (.iinc 4 1, 3) := by decide +kernel
theorem dX11_does_138 : decode cX11_does 138 = .ok (.goto (-102), 3) := by decide +kernel
theorem dX11_does_141 : decode cX11_does 141 = .ok (.iload_n 3, 1) := by decide +kernel
theorem dX11_does_142 : decode cX11_does 142 = .ok (.ireturn, 1) := by decide +kernel
theorem dX11_done_0 : decode cX11_done 0 = .ok (.aload_n 0, 1) := by decide +kernel
theorem dX11_done_1 : decode cX11_done 1 = .ok (.iload_n 1, 1) := by decide +kernel
theorem dX11_done_2 : decode cX11_done 2 = .ok (.invokevirtual 171, 3) := by decide +kernel
theorem dX11_done_5 : decode cX11_done 5 = .ok (.ifCond .eq 15, 3) := by decide +kernel
theorem dX11_done_8 : decode cX11_done 8 = .ok (.iload_n 2, 1) := by decide +kernel
theorem dX11_done_9 : decode cX11_done 9 = .ok (.i2l, 1) := by decide +kernel
theorem dX11_done_10 : decode cX11_done 10 = .ok (.lconst 0, 1) := by decide +kernel
theorem dX11_done_11 : decode cX11_done 11 = .ok (.ldc2_w 315, 3) := by decide +kernel
theorem dX11_done_14 : decode cX11_done 14 = .ok (.invokestatic 78, 3) := by decide +kernel
theorem dX11_done_17 : decode cX11_done 17 = .ok (.ifCond .ne 6, 3) := by decide +kernel
theorem dX11_done_20 : decode cX11_done 20 = .ok (.bipush (-2), 2) := by decide +kernel
theorem dX11_done_22 : decode cX11_done 22 = .ok (.ireturn, 1) := by decide +kernel
theorem dX11_done_23 : decode cX11_done 23 = .ok (.aload_n 0, 1) := by decide +kernel
theorem dX11_done_24 : decode cX11_done 24 = .ok (.iload_n 1, 1) := by decide +kernel
theorem dX11_done_25 : decode cX11_done 25 = .ok (.aload_n 0, 1) := by decide +kernel
theorem dX11_done_26 : decode cX11_done 26 = .ok (.getfield 9, 3) := by decide +kernel
theorem dX11_done_29 : decode cX11_done 29 = .ok (.iconst 1, 1) := by decide +kernel
theorem dX11_done_30 : decode cX11_done 30 = .ok (.iaload, 1) := by decide +kernel
theorem dX11_done_31 : decode cX11_done 31 = .ok (.invokevirtual 317, 3) := by decide +kernel
theorem dX11_done_34 : decode cX11_done 34 = .ok (.istore_n 3, 1) := by decide +kernel
theorem dX11_done_35 : decode cX11_done 35 = .ok (.iconst 0, 1) := by decide +kernel
theorem dX11_done_36 : decode cX11_done 36 = .ok (.istore 4, 2) := by decide +kernel
theorem dX11_done_38 : decode cX11_done 38 = .ok (.iconst 0, 1) := by decide +kernel
theorem dX11_done_39 : decode cX11_done 39 = .ok (.istore 5, 2) := by decide +kernel
theorem dX11_done_41 : decode cX11_done 41 = .ok (.iconst 0, 1) := by decide +kernel
theorem dX11_done_42 : decode cX11_done 42 = .ok (.istore 6, 2) := by decide +kernel
theorem dX11_done_44 : decode cX11_done 44 = .ok (.iconst 0, 1) := by decide +kernel
theorem dX11_done_45 : decode cX11_done 45 = .ok (.istore 7, 2) := by decide +kernel
theorem dX11_done_47 : decode cX11_done 47 = .ok (.iconst 0, 1) := by decide +kernel
theorem dX11_done_48 : decode cX11_done 48 = .ok (.istore 8, 2) := by decide +kernel
theorem dX11_done_50 : decode cX11_done 50 = .ok (.iload 8, 2) := by decide +kernel
theorem dX11_done_52 : decode cX11_done 52 = .ok (.iload_n 3, 1) := by decide +kernel
theorem dX11_done_53 : decode cX11_done 53 = .ok (.if_icmp .ge 83, 3) := by decide +kernel
theorem dX11_done_56 : decode cX11_done 56 = .ok (.iconst 0, 1) := by decide +kernel
theorem dX11_done_57 : decode cX11_done 57 = .ok (.aload_n 0, 1) := by decide +kernel
theorem dX11_done_58 : decode cX11_done 58 = .ok (.getfield 72, 3) := by decide +kernel
theorem dX11_done_61 : decode cX11_done 61 = .ok (.iload 8, 2) := by decide +kernel
theorem dX11_done_63 : decode cX11_done 63 = .ok (.iaload, 1) := by decide +kernel
theorem dX11_done_64 : decode cX11_done 64 = .ok (.aload_n 0, 1) := by decide +kernel
theorem dX11_done_65 : decode cX11_done 65 = .ok (.getfield 9, 3) := by decide +kernel
theorem dX11_done_68 : decode cX11_done 68 = .ok (.bipush 126, 2) := by decide +kernel
theorem dX11_done_70 : decode cX11_done 70 = .ok (.aload_n 0, 1) := by decide +kernel
theorem dX11_done_71 : decode cX11_done 71 = .ok (.getfield 57, 3) := by decide +kernel
theorem dX11_done_74 : decode cX11_done 74 = .ok (.iload 8, 2) := by decide +kernel
theorem dX11_done_76 : decode cX11_done 76 = .ok (.iaload, 1) := by decide +kernel
theorem dX11_done_77 : decode cX11_done 77 = .ok (.iadd, 1) := by decide +kernel
theorem dX11_done_78 : decode cX11_done 78 = .ok (.iaload, 1) := by decide +kernel
theorem dX11_done_79 : decode cX11_done 79 = .ok (.isub, 1) := by decide +kernel
theorem dX11_done_80 : decode cX11_done 80 = .ok (.invokestatic 275, 3) := by decide +kernel
theorem dX11_done_83 : decode cX11_done 83 = .ok (.istore 9, 2) := by decide +kernel
theorem dX11_done_85 : decode cX11_done 85 = .ok (.iload 4, 2) := by decide +kernel
theorem dX11_done_87 : decode cX11_done 87 = .ok (.aload_n 0, 1) := by decide +kernel
theorem dX11_done_88 : decode cX11_done 88 = .ok (.getfield 72, 3) := by decide +kernel
theorem dX11_done_91 : decode cX11_done 91 = .ok (.iload 8, 2) := by decide +kernel
theorem dX11_done_93 : decode cX11_done 93 = .ok (.iaload, 1) := by decide +kernel
theorem dX11_done_94 : decode cX11_done 94 = .ok (.invokestatic 275, 3) := by decide +kernel
theorem dX11_done_97 : decode cX11_done 97 = .ok (.istore 4, 2) := by decide +kernel
theorem dX11_done_99 : decode cX11_done 99 = .ok (.iload 5, 2) := by decide +kernel
theorem dX11_done_101 : decode cX11_done 101 = .ok (.iload 9, 2) := by decide +kernel
theorem dX11_done_103 : decode cX11_done 103 = .ok (.ifCond .le 7, 3) := by decide +kernel
theorem dX11_done_106 : decode cX11_done 106 = .ok (.iconst 1, 1) := by decide +kernel
theorem dX11_done_107 : decode cX11_done 107 = .ok (.goto 4, 3) := by decide +kernel
theorem dX11_done_110 : decode cX11_done 110 = .ok (.iconst 0, 1) := by decide +kernel
theorem dX11_done_111 : decode cX11_done 111 = .ok (.iadd, 1) := by decide +kernel
theorem dX11_done_112 : decode cX11_done 112 = .ok (.istore 5, 2) := by decide +kernel
theorem dX11_done_114 : decode cX11_done 114 = .ok (.iload 6, 2) := by decide +kernel
theorem dX11_done_116 : decode cX11_done 116 = .ok (.iload 9, 2) := by decide +kernel
theorem dX11_done_118 : decode cX11_done 118 = .ok (.iadd, 1) := by decide +kernel
theorem dX11_done_119 : decode cX11_done 119 = .ok (.istore 6, 2) := by decide +kernel
theorem dX11_done_121 : decode cX11_done 121 = .ok (.iload 7, 2) := by decide +kernel
theorem dX11_done_123 : decode cX11_done 123 = .ok (.iload 9, 2) := by decide +kernel
theorem dX11_done_125 : decode cX11_done 125 = .ok (.invokestatic 275, 3) := by decide +kernel
theorem dX11_done_128 : decode cX11_done 128 = .ok (.istore 7, 2) := by decide +kernel
theorem dX11_done_130 : decode cX11_done 130 = .ok (.iinc 8 1, 3) := by decide +kernel
theorem dX11_done_133 : decode cX11_done 133 = .ok (.goto (-83), 3) := by decide +kernel
theorem dX11_done_136 : decode cX11_done 136 = .ok (.iload_n 2, 1) := by decide +kernel
theorem dX11_done_137 : decode cX11_done 137 = .ok (.ifCond .ne 8, 3) := by decide +kernel
theorem dX11_done_140 : decode cX11_done 140 = .ok (.iload 4, 2) := by decide +kernel
theorem dX11_done_142 : decode cX11_done 142 = .ok (.goto 25, 3) := by decide +kernel
theorem dX11_done_145 : decode cX11_done 145 = .ok (.iload_n 2, 1) := by decide +kernel
theorem dX11_done_146 : decode cX11_done 146 = .ok (.iconst 1, 1) := by decide +kernel
theorem dX11_done_147 : decode cX11_done 147 = .ok (.if_icmp .ne 8, 3) := by decide +kernel
theorem dX11_done_150 : decode cX11_done 150 = .ok (.iload 5, 2) := by decide +kernel
theorem dX11_done_152 : decode cX11_done 152 = .ok (.goto 15, 3) := by decide +kernel
theorem dX11_done_155 : decode cX11_done 155 = .ok (.iload_n 2, 1) := by decide +kernel
theorem dX11_done_156 : decode cX11_done 156 = .ok (.iconst 2, 1) := by decide +kernel
theorem dX11_done_157 : decode cX11_done 157 = .ok (.if_icmp .ne 8, 3) := by decide +kernel
theorem dX11_done_160 : decode cX11_done 160 = .ok (.iload 6, 2) := by decide +kernel
theorem dX11_done_162 : decode cX11_done 162 = .ok (.goto 5, 3) := by decide +kernel
theorem dX11_done_165 : decode cX11_done 165 = .ok (.iload 7, 2) := by decide +kernel
theorem dX11_done_167 : decode cX11_done 167 = .ok (.ireturn, 1) := by decide +kernel
theorem dX11_hand_0 : decode cX11_hand 0 = .ok (.aload_n 0, 1) := by decide +kernel
theorem dX11_hand_1 : decode cX11_hand 1 = .ok (.iload_n 1, 1) := by decide +kernel
theorem dX11_hand_2 : decode cX11_hand 2 = .ok (.invokevirtual 171, 3) := by decide +kernel
theorem dX11_hand_5 : decode cX11_hand 5 = .ok (.ifCond .eq 7, 3) := by decide +kernel
theorem dX11_hand_8 : decode cX11_hand 8 = .ok (.iload_n 2, 1) := by decide +kernel
theorem dX11_hand_9 : decode cX11_hand 9 = .ok (.ifCond .ge 6, 3) := by decide +kernel
theorem dX11_hand_12 : decode cX11_hand 12 = .ok (.bipush (-2), 2) := by decide +kernel
theorem dX11_hand_14 : decode cX11_hand 14 = .ok (.ireturn, 1) := by decide +kernel
theorem dX11_hand_15 : decode cX11_hand 15 = .ok (.iload_n 2, 1) := by decide +kernel
theorem dX11_hand_16 : decode cX11_hand 16 = .ok (.aload_n 0, 1) := by decide +kernel
theorem dX11_hand_17 : decode cX11_hand 17 = .ok (.iload_n 1, 1) := by decide +kernel
theorem dX11_hand_18 : decode cX11_hand 18 = .ok (.aload_n 0, 1) := by decide +kernel
theorem dX11_hand_19 : decode cX11_hand 19 = .ok (.getfield 9, 3) := by decide +kernel
theorem dX11_hand_22 : decode cX11_hand 22 = .ok (.iconst 1, 1) := by decide +kernel
theorem dX11_hand_23 : decode cX11_hand 23 = .ok (.iaload, 1) := by decide +kernel
theorem dX11_hand_24 : decode cX11_hand 24 = .ok (.invokevirtual 317, 3) := by decide +kernel
theorem dX11_hand_27 : decode cX11_hand 27 = .ok (.if_icmp .ge 12, 3) := by decide +kernel
theorem dX11_hand_30 : decode cX11_hand 30 = .ok (.aload_n 0, 1) := by decide +kernel
theorem dX11_hand_31 : decode cX11_hand 31 = .ok (.getfield 69, 3) := by decide +kernel
theorem dX11_hand_34 : decode cX11_hand 34 = .ok (.iload_n 2, 1) := by decide +kernel
theorem dX11_hand_35 : decode cX11_hand 35 = .ok (.iaload, 1) := by decide +kernel
theorem dX11_hand_36 : decode cX11_hand 36 = .ok (.goto 4, 3) := by decide +kernel
theorem dX11_hand_39 : decode cX11_hand 39 = .ok (.iconst (-1), 1) := by decide +kernel
theorem dX11_hand_40 : decode cX11_hand 40 = .ok (.ireturn, 1) := by decide +kernel
theorem dX11_ends_0 : decode cX11_ends 0 = .ok (.aload_n 0, 1) := by decide +kernel
theorem dX11_ends_1 : decode cX11_ends 1 = .ok (.iload_n 1, 1) := by decide +kernel
theorem dX11_ends_2 : decode cX11_ends 2 = .ok (.invokevirtual 171, 3) := by decide +kernel
theorem dX11_ends_5 : decode cX11_ends 5 = .ok (.ifCond .eq 7, 3) := by decide +kernel
theorem dX11_ends_8 : decode cX11_ends 8 = .ok (.iload_n 2, 1) := by decide +kernel
theorem dX11_ends_9 : decode cX11_ends 9 = .ok (.ifCond .ge 6, 3) := by decide +kernel
theorem dX11_ends_12 : decode cX11_ends 12 = .ok (.bipush (-2), 2) := by decide +kernel
theorem dX11_ends_14 : decode cX11_ends 14 = .ok (.ireturn, 1) := by decide +kernel
theorem dX11_ends_15 : decode cX11_ends 15 = .ok (.iload_n 2, 1) := by decide +kernel
theorem dX11_ends_16 : decode cX11_ends 16 = .ok (.aload_n 0, 1) := by decide +kernel
theorem dX11_ends_17 : decode cX11_ends 17 = .ok (.iload_n 1, 1) := by decide +kernel
theorem dX11_ends_18 : decode cX11_ends 18 = .ok (.aload_n 0, 1) := by decide +kernel
theorem dX11_ends_19 : decode cX11_ends 19 = .ok (.getfield 9, 3) := by decide +kernel
theorem dX11_ends_22 : decode cX11_ends 22 = .ok (.iconst 1, 1) := by decide +kernel
theorem dX11_ends_23 : decode cX11_ends 23 = .ok (.iaload, 1) := by decide +kernel
theorem dX11_ends_24 : decode cX11_ends 24 = .ok (.invokevirtual 317, 3) := by decide +kernel
theorem dX11_ends_27 : decode cX11_ends 27 = .ok (.if_icmp .ge 12, 3) := by decide +kernel
theorem dX11_ends_30 : decode cX11_ends 30 = .ok (.aload_n 0, 1) := by decide +kernel
theorem dX11_ends_31 : decode cX11_ends 31 = .ok (.getfield 72, 3) := by decide +kernel
theorem dX11_ends_34 : decode cX11_ends 34 = .ok (.iload_n 2, 1) := by decide +kernel
theorem dX11_ends_35 : decode cX11_ends 35 = .ok (.iaload, 1) := by decide +kernel
theorem dX11_ends_36 : decode cX11_ends 36 = .ok (.goto 4, 3) := by decide +kernel
theorem dX11_ends_39 : decode cX11_ends 39 = .ok (.iconst (-1), 1) := by decide +kernel
theorem dX11_ends_40 : decode cX11_ends 40 = .ok (.ireturn, 1) := by decide +kernel
theorem dX11_hands_0 : decode cX11_hands 0 = .ok (.aload_n 0, 1) := by decide +kernel
theorem dX11_hands_1 : decode cX11_hands 1 = .ok (.iload_n 1, 1) := by decide +kernel
theorem dX11_hands_2 : decode cX11_hands 2 = .ok (.invokevirtual 171, 3) := by decide +kernel
theorem dX11_hands_5 : decode cX11_hands 5 = .ok (.ifCond .ne 6, 3) := by decide +kernel
theorem dX11_hands_8 : decode cX11_hands 8 = .ok (.bipush (-2), 2) := by decide +kernel
theorem dX11_hands_10 : decode cX11_hands 10 = .ok (.ireturn, 1) := by decide +kernel
theorem dX11_hands_11 : decode cX11_hands 11 = .ok (.iconst 1, 1) := by decide +kernel
theorem dX11_hands_12 : decode cX11_hands 12 = .ok (.istore_n 2, 1) := by decide +kernel
theorem dX11_hands_13 : decode cX11_hands 13 = .ok (.iload_n 2, 1) := by decide +kernel
theorem dX11_hands_14 : decode cX11_hands 14 = .ok (.bipush 8, 2) := by decide +kernel
theorem dX11_hands_16 : decode cX11_hands 16 = .ok (.if_icmp .gt 78, 3) := by decide +kernel
theorem dX11_hands_19 : decode cX11_hands 19 = .ok (.aload_n 0, 1) := by decide +kernel
theorem dX11_hands_20 : decode cX11_hands 20 = .ok (.iload_n 1, 1) := by decide +kernel
theorem dX11_hands_21 : decode cX11_hands 21 = .ok (.iload_n 2, 1) := by decide +kernel
theorem dX11_hands_22 : decode cX11_hands 22 = .ok (.invokevirtual 317, 3) := by decide +kernel
theorem dX11_hands_25 : decode cX11_hands 25 = .ok (.istore_n 3, 1) := by decide +kernel
theorem dX11_hands_26 : decode cX11_hands 26 = .ok (.iconst 0, 1) := by decide +kernel
theorem dX11_hands_27 : decode cX11_hands 27 = .ok (.istore 4, 2) := by decide +kernel
theorem dX11_hands_29 : decode cX11_hands 29 = .ok (.iconst 0, 1) := by decide +kernel
theorem dX11_hands_30 : decode cX11_hands 30 = .ok (.istore 5, 2) := by decide +kernel
theorem dX11_hands_32 : decode cX11_hands 32 = .ok (.iload 5, 2) := by decide +kernel
theorem dX11_hands_34 : decode cX11_hands 34 = .ok (.iload_n 3, 1) := by decide +kernel
theorem dX11_hands_35 : decode cX11_hands 35 = .ok (.if_icmp .ge 46, 3) := by decide +kernel
theorem dX11_hands_38 : decode cX11_hands 38 = .ok (.iload 4, 2) := by decide +kernel
theorem dX11_hands_40 : decode cX11_hands 40 = .ok (.ifCond .ne 28, 3) := by decide +kernel
theorem dX11_hands_43 : decode cX11_hands 43 = .ok (.aload_n 0, 1) := by decide +kernel
theorem dX11_hands_44 : decode cX11_hands 44 = .ok (.getfield 72, 3) := by decide +kernel
theorem dX11_hands_47 : decode cX11_hands 47 = .ok (.iload 5, 2) := by decide +kernel
theorem dX11_hands_49 : decode cX11_hands 49 = .ok (.iaload, 1) := by decide +kernel
theorem dX11_hands_50 : decode cX11_hands 50 = .ok (.aload_n 0, 1) := by decide +kernel
theorem dX11_hands_51 : decode cX11_hands 51 = .ok (.getfield 9, 3) := by decide +kernel
theorem dX11_hands_54 : decode cX11_hands 54 = .ok (.bipush 126, 2) := by decide +kernel
theorem dX11_hands_56 : decode cX11_hands 56 = .ok (.aload_n 0, 1) := by decide +kernel
theorem dX11_hands_57 : decode cX11_hands 57 = .ok (.getfield 57, 3) := by decide +kernel
theorem dX11_hands_60 : decode cX11_hands 60 = .ok (.iload 5, 2) := by decide +kernel
theorem dX11_hands_62 : decode cX11_hands 62 = .ok (.iaload, 1) := by decide +kernel
theorem dX11_hands_63 : decode cX11_hands 63 = .ok (.iadd, 1) := by decide +kernel
theorem dX11_hands_64 : decode cX11_hands 64 = .ok (.iaload, 1) := by decide +kernel
theorem dX11_hands_65 : decode cX11_hands 65 = .ok (.if_icmp .le 7, 3) := by decide +kernel
theorem dX11_hands_68 : decode cX11_hands 68 = .ok (.iconst 1, 1) := by decide +kernel
theorem dX11_hands_69 : decode cX11_hands 69 = .ok (.goto 4, 3) := by decide +kernel
theorem dX11_hands_72 : decode cX11_hands 72 = .ok (.iconst 0, 1) := by decide +kernel
theorem dX11_hands_73 : decode cX11_hands 73 = .ok (.istore 4, 2) := by decide +kernel
theorem dX11_hands_75 : decode cX11_hands 75 = .ok (.iinc 5 1, 3) := by decide +kernel
theorem dX11_hands_78 : decode cX11_hands 78 = .ok (.goto (-46), 3) := by decide +kernel
theorem dX11_hands_81 : decode cX11_hands 81 = .ok (.iload 4, 2) := by decide +kernel
theorem dX11_hands_83 : decode cX11_hands 83 = .ok (.ifCond .ne 5, 3) := by decide +kernel
theorem dX11_hands_86 : decode cX11_hands 86 = .ok (.iload_n 2, 1) := by decide +kernel
theorem dX11_hands_87 : decode cX11_hands 87 = .ok (.ireturn, 1) := by decide +kernel
theorem dX11_hands_88 : decode cX11_hands 88 = .ok (.iinc 2 1, 3) := by decide +kernel
theorem dX11_hands_91 : decode cX11_hands 91 = .ok (.goto (-78), 3) := by decide +kernel
theorem dX11_hands_94 : decode cX11_hands 94 = .ok (.iconst (-1), 1) := by decide +kernel
theorem dX11_hands_95 : decode cX11_hands 95 = .ok (.ireturn, 1) := by decide +kernel
theorem dX11_puts_0 : decode cX11_puts 0 = .ok (.aload_n 0, 1) := by decide +kernel
theorem dX11_puts_1 : decode cX11_puts 1 = .ok (.iload_n 1, 1) := by decide +kernel
theorem dX11_puts_2 : decode cX11_puts 2 = .ok (.invokevirtual 171, 3) := by decide +kernel
theorem dX11_puts_5 : decode cX11_puts 5 = .ok (.ifCond .eq 27, 3) := by decide +kernel
theorem dX11_puts_8 : decode cX11_puts 8 = .ok (.iload_n 2, 1) := by decide +kernel
theorem dX11_puts_9 : decode cX11_puts 9 = .ok (.i2l, 1) := by decide +kernel
theorem dX11_puts_10 : decode cX11_puts 10 = .ok (.lconst 0, 1) := by decide +kernel
theorem dX11_puts_11 : decode cX11_puts 11 = .ok (.ldc2_w 320, 3) := by decide +kernel
theorem dX11_puts_14 : decode cX11_puts 14 = .ok (.invokestatic 78, 3) := by decide +kernel
theorem dX11_puts_17 : decode cX11_puts 17 = .ok (.ifCond .eq 15, 3) := by decide +kernel
theorem dX11_puts_20 : decode cX11_puts 20 = .ok (.iload_n 3, 1) := by decide +kernel
theorem dX11_puts_21 : decode cX11_puts 21 = .ok (.i2l, 1) := by decide +kernel
theorem dX11_puts_22 : decode cX11_puts 22 = .ok (.lconst 1, 1) := by decide +kernel
theorem dX11_puts_23 : decode cX11_puts 23 = .ok (.ldc2_w 322, 3) := by decide +kernel
theorem dX11_puts_26 : decode cX11_puts 26 = .ok (.invokestatic 78, 3) := by decide +kernel
theorem dX11_puts_29 : decode cX11_puts 29 = .ok (.ifCond .ne 6, 3) := by decide +kernel
theorem dX11_puts_32 : decode cX11_puts 32 = .ok (.bipush (-2), 2) := by decide +kernel
theorem dX11_puts_34 : decode cX11_puts 34 = .ok (.ireturn, 1) := by decide +kernel
theorem dX11_puts_35 : decode cX11_puts 35 = .ok (.aload_n 0, 1) := by decide +kernel
theorem dX11_puts_36 : decode cX11_puts 36 = .ok (.iconst 1, 1) := by decide +kernel
theorem dX11_puts_37 : decode cX11_puts 37 = .ok (.iload_n 1, 1) := by decide +kernel
theorem dX11_puts_38 : decode cX11_puts 38 = .ok (.iconst (-1), 1) := by decide +kernel
theorem dX11_puts_39 : decode cX11_puts 39 = .ok (.iload_n 2, 1) := by decide +kernel
theorem dX11_puts_40 : decode cX11_puts 40 = .ok (.iload_n 3, 1) := by decide +kernel
theorem dX11_puts_41 : decode cX11_puts 41 = .ok (.aload_n 0, 1) := by decide +kernel
theorem dX11_puts_42 : decode cX11_puts 42 = .ok (.getfield 9, 3) := by decide +kernel
theorem dX11_puts_45 : decode cX11_puts 45 = .ok (.sipush 186, 3) := by decide +kernel
theorem dX11_puts_48 : decode cX11_puts 48 = .ok (.iload_n 1, 1) := by decide +kernel
theorem dX11_puts_49 : decode cX11_puts 49 = .ok (.iadd, 1) := by decide +kernel
theorem dX11_puts_50 : decode cX11_puts 50 = .ok (.iaload, 1) := by decide +kernel
theorem dX11_puts_51 : decode cX11_puts 51 = .ok (.bipush 24, 2) := by decide +kernel
theorem dX11_puts_53 : decode cX11_puts 53 = .ok (.if_icmp .ne 7, 3) := by decide +kernel
theorem dX11_puts_56 : decode cX11_puts 56 = .ok (.iconst 1, 1) := by decide +kernel
theorem dX11_puts_57 : decode cX11_puts 57 = .ok (.goto 4, 3) := by decide +kernel
theorem dX11_puts_60 : decode cX11_puts 60 = .ok (.iconst 0, 1) := by decide +kernel
theorem dX11_puts_61 : decode cX11_puts 61 = .ok (.invokevirtual 324, 3) := by decide +kernel
theorem dX11_puts_64 : decode cX11_puts 64 = .ok (.ireturn, 1) := by decide +kernel
theorem dX11_acts_0 : decode cX11_acts 0 = .ok (.aload_n 0, 1) := by decide +kernel
theorem dX11_acts_1 : decode cX11_acts 1 = .ok (.getfield 9, 3) := by decide +kernel
theorem dX11_acts_4 : decode cX11_acts 4 = .ok (.iconst 2, 1) := by decide +kernel
theorem dX11_acts_5 : decode cX11_acts 5 = .ok (.iaload, 1) := by decide +kernel
theorem dX11_acts_6 : decode cX11_acts 6 = .ok (.bipush 30, 2) := by decide +kernel
theorem dX11_acts_8 : decode cX11_acts 8 = .ok (.if_icmp .ne 6, 3) := by decide +kernel
theorem dX11_acts_11 : decode cX11_acts 11 = .ok (.bipush (-5), 2) := by decide +kernel
theorem dX11_acts_13 : decode cX11_acts 13 = .ok (.ireturn, 1) := by decide +kernel
theorem dX11_acts_14 : decode cX11_acts 14 = .ok (.iload 6, 2) := by decide +kernel
theorem dX11_acts_16 : decode cX11_acts 16 = .ok (.ifCond .eq 6, 3) := by decide +kernel
theorem dX11_acts_19 : decode cX11_acts 19 = .ok (.bipush (-3), 2) := by decide +kernel
theorem dX11_acts_21 : decode cX11_acts 21 = .ok (.ireturn, 1) := by decide +kernel
theorem dX11_acts_22 : decode cX11_acts 22 = .ok (.aload_n 0, 1) := by decide +kernel
theorem dX11_acts_23 : decode cX11_acts 23 = .ok (.iload_n 1, 1) := by decide +kernel
theorem dX11_acts_24 : decode cX11_acts 24 = .ok (.iload_n 2, 1) := by decide +kernel
theorem dX11_acts_25 : decode cX11_acts 25 = .ok (.iload_n 3, 1) := by decide +kernel
theorem dX11_acts_26 : decode cX11_acts 26 = .ok (.iload 4, 2) := by decide +kernel
theorem dX11_acts_28 : decode cX11_acts 28 = .ok (.iload 5, 2) := by decide +kernel
theorem dX11_acts_30 : decode cX11_acts 30 = .ok (.invokevirtual 162, 3) := by decide +kernel
theorem dX11_acts_33 : decode cX11_acts 33 = .ok (.aload_n 0, 1) := by decide +kernel
theorem dX11_acts_34 : decode cX11_acts 34 = .ok (.getfield 9, 3) := by decide +kernel
theorem dX11_acts_37 : decode cX11_acts 37 = .ok (.iconst 2, 1) := by decide +kernel
theorem dX11_acts_38 : decode cX11_acts 38 = .ok (.iaload, 1) := by decide +kernel
theorem dX11_acts_39 : decode cX11_acts 39 = .ok (.iconst 1, 1) := by decide +kernel
theorem dX11_acts_40 : decode cX11_acts 40 = .ok (.isub, 1) := by decide +kernel
theorem dX11_acts_41 : decode cX11_acts 41 = .ok (.ireturn, 1) := by decide +kernel
theorem dX11_joins__0 : decode cX11_joins_ 0 = .ok (.aload_n 0, 1) := by decide +kernel
theorem dX11_joins__1 : decode cX11_joins_ 1 = .ok (.iload_n 1, 1) := by decide +kernel
theorem dX11_joins__2 : decode cX11_joins_ 2 = .ok (.invokevirtual 171, 3) := by decide +kernel
theorem dX11_joins__5 : decode cX11_joins_ 5 = .ok (.ifCond .eq 11, 3) := by decide +kernel
theorem dX11_joins__8 : decode cX11_joins_ 8 = .ok (.aload_n 0, 1) := by decide +kernel
theorem dX11_joins__9 : decode cX11_joins_ 9 = .ok (.iload_n 2, 1) := by decide +kernel
theorem dX11_joins__10 : decode cX11_joins_ 10 = .ok (.invokevirtual 171, 3) := by decide +kernel
theorem dX11_joins__13 : decode cX11_joins_ 13 = .ok (.ifCond .ne 6, 3) := by decide +kernel
theorem dX11_joins__16 : decode cX11_joins_ 16 = .ok (.bipush (-2), 2) := by decide +kernel
theorem dX11_joins__18 : decode cX11_joins_ 18 = .ok (.ireturn, 1) := by decide +kernel
theorem dX11_joins__19 : decode cX11_joins_ 19 = .ok (.aload_n 0, 1) := by decide +kernel
theorem dX11_joins__20 : decode cX11_joins_ 20 = .ok (.iconst 2, 1) := by decide +kernel
theorem dX11_joins__21 : decode cX11_joins_ 21 = .ok (.iload_n 1, 1) := by decide +kernel
theorem dX11_joins__22 : decode cX11_joins_ 22 = .ok (.iload_n 2, 1) := by decide +kernel
theorem dX11_joins__23 : decode cX11_joins_ 23 = .ok (.iconst 0, 1) := by decide +kernel
theorem dX11_joins__24 : decode cX11_joins_ 24 = .ok (.iconst 0, 1) := by decide +kernel
theorem dX11_joins__25 : decode cX11_joins_ 25 = .ok (.aload_n 0, 1) := by decide +kernel
theorem dX11_joins__26 : decode cX11_joins_ 26 = .ok (.getfield 9, 3) := by decide +kernel
theorem dX11_joins__29 : decode cX11_joins_ 29 = .ok (.sipush 186, 3) := by decide +kernel
theorem dX11_joins__32 : decode cX11_joins_ 32 = .ok (.iload_n 1, 1) := by decide +kernel
theorem dX11_joins__33 : decode cX11_joins_ 33 = .ok (.iadd, 1) := by decide +kernel
theorem dX11_joins__34 : decode cX11_joins_ 34 = .ok (.iaload, 1) := by decide +kernel
theorem dX11_joins__35 : decode cX11_joins_ 35 = .ok (.aload_n 0, 1) := by decide +kernel
theorem dX11_joins__36 : decode cX11_joins_ 36 = .ok (.getfield 9, 3) := by decide +kernel
theorem dX11_joins__39 : decode cX11_joins_ 39 = .ok (.sipush 186, 3) := by decide +kernel
theorem dX11_joins__42 : decode cX11_joins_ 42 = .ok (.iload_n 2, 1) := by decide +kernel
theorem dX11_joins__43 : decode cX11_joins_ 43 = .ok (.iadd, 1) := by decide +kernel
theorem dX11_joins__44 : decode cX11_joins_ 44 = .ok (.iaload, 1) := by decide +kernel
theorem dX11_joins__45 : decode cX11_joins_ 45 = .ok (.iadd, 1) := by decide +kernel
theorem dX11_joins__46 : decode cX11_joins_ 46 = .ok (.bipush 24, 2) := by decide +kernel
theorem dX11_joins__48 : decode cX11_joins_ 48 = .ok (.if_icmp .le 7, 3) := by decide +kernel
theorem dX11_joins__51 : decode cX11_joins_ 51 = .ok (.iconst 1, 1) := by decide +kernel
theorem dX11_joins__52 : decode cX11_joins_ 52 = .ok (.goto 4, 3) := by decide +kernel
theorem dX11_joins__55 : decode cX11_joins_ 55 = .ok (.iconst 0, 1) := by decide +kernel
theorem dX11_joins__56 : decode cX11_joins_ 56 = .ok (.invokevirtual 324, 3) := by decide +kernel
theorem dX11_joins__59 : decode cX11_joins_ 59 = .ok (.ireturn, 1) := by decide +kernel
theorem dX11_takes__0 : decode cX11_takes_ 0 = .ok (.aload_n 0, 1) := by decide +kernel
theorem dX11_takes__1 : decode cX11_takes_ 1 = .ok (.iload_n 1, 1) := by decide +kernel
theorem dX11_takes__2 : decode cX11_takes_ 2 = .ok (.invokevirtual 171, 3) := by decide +kernel
theorem dX11_takes__5 : decode cX11_takes_ 5 = .ok (.ifCond .eq 33, 3) := by decide +kernel
theorem dX11_takes__8 : decode cX11_takes_ 8 = .ok (.aload_n 0, 1) := by decide +kernel
theorem dX11_takes__9 : decode cX11_takes_ 9 = .ok (.iconst 3, 1) := by decide +kernel
theorem dX11_takes__10 : decode cX11_takes_ 10 = .ok (.iload_n 1, 1) := by decide +kernel
theorem dX11_takes__11 : decode cX11_takes_ 11 = .ok (.iconst (-1), 1) := by decide +kernel
theorem dX11_takes__12 : decode cX11_takes_ 12 = .ok (.iconst 0, 1) := by decide +kernel
theorem dX11_takes__13 : decode cX11_takes_ 13 = .ok (.iconst 0, 1) := by decide +kernel
theorem dX11_takes__14 : decode cX11_takes_ 14 = .ok (.aload_n 0, 1) := by decide +kernel
theorem dX11_takes__15 : decode cX11_takes_ 15 = .ok (.getfield 9, 3) := by decide +kernel
theorem dX11_takes__18 : decode cX11_takes_ 18 = .ok (.sipush 186, 3) := by decide +kernel
theorem dX11_takes__21 : decode cX11_takes_ 21 = .ok (.iload_n 1, 1) := by decide +kernel
theorem dX11_takes__22 : decode cX11_takes_ 22 = .ok (.iadd, 1) := by decide +kernel
theorem dX11_takes__23 : decode cX11_takes_ 23 = .ok (.iaload, 1) := by decide +kernel
theorem dX11_takes__24 : decode cX11_takes_ 24 = .ok (.ifCond .ne 7, 3) := by decide +kernel
theorem dX11_takes__27 : decode cX11_takes_ 27 = .ok (.iconst 1, 1) := by decide +kernel
theorem dX11_takes__28 : decode cX11_takes_ 28 = .ok (.goto 4, 3) := by decide +kernel
theorem dX11_takes__31 : decode cX11_takes_ 31 = .ok (.iconst 0, 1) := by decide +kernel
theorem dX11_takes__32 : decode cX11_takes_ 32 = .ok (.invokevirtual 324, 3) := by decide +kernel
theorem dX11_takes__35 : decode cX11_takes_ 35 = .ok (.goto 5, 3) := by decide +kernel
theorem dX11_takes__38 : decode cX11_takes_ 38 = .ok (.bipush (-2), 2) := by decide +kernel
theorem dX11_takes__40 : decode cX11_takes_ 40 = .ok (.ireturn, 1) := by decide +kernel
theorem dX11_takesBack_0 : decode cX11_takesBack 0 = .ok (.aload_n 0, 1) := by decide +kernel
theorem dX11_takesBack_1 : decode cX11_takesBack 1 = .ok (.getfield 9, 3) := by decide +kernel
theorem dX11_takesBack_4 : decode cX11_takesBack 4 = .ok (.iconst 2, 1) := by decide +kernel
theorem dX11_takesBack_5 : decode cX11_takesBack 5 = .ok (.dup2, 1) := by decide +kernel
theorem dX11_takesBack_6 : decode cX11_takesBack 6 = .ok (.iaload, 1) := by decide +kernel
theorem dX11_takesBack_7 : decode cX11_takesBack 7 = .ok (.iconst 1, 1) := by decide +kernel
theorem dX11_takesBack_8 : decode cX11_takesBack 8 = .ok (.isub, 1) := by decide +kernel
theorem dX11_takesBack_9 : decode cX11_takesBack 9 = .ok (.iastore, 1) := by decide +kernel
theorem dX11_takesBack_10 : decode cX11_takesBack 10 = .ok (.aload_n 0, 1) := by decide +kernel
theorem dX11_takesBack_11 : decode cX11_takesBack 11 = .ok (.getfield 9, 3) := by decide +kernel
theorem dX11_takesBack_14 : decode cX11_takesBack 14 = .ok (.iconst 3, 1) := by decide +kernel
theorem dX11_takesBack_15 : decode cX11_takesBack 15 = .ok (.dup2, 1) := by decide +kernel
theorem dX11_takesBack_16 : decode cX11_takesBack 16 = .ok (.iaload, 1) := by decide +kernel
theorem dX11_takesBack_17 : decode cX11_takesBack 17 = .ok (.aload_n 0, 1) := by decide +kernel
theorem dX11_takesBack_18 : decode cX11_takesBack 18 = .ok (.getfield 9, 3) := by decide +kernel
theorem dX11_takesBack_21 : decode cX11_takesBack 21 = .ok (.bipush 6, 2) := by decide +kernel
theorem dX11_takesBack_23 : decode cX11_takesBack 23 = .ok (.aload_n 0, 1) := by decide +kernel
theorem dX11_takesBack_24 : decode cX11_takesBack 24 = .ok (.getfield 9, 3) := by decide +kernel
theorem dX11_takesBack_27 : decode cX11_takesBack 27 = .ok (.iconst 2, 1) := by decide +kernel
theorem dX11_takesBack_28 : decode cX11_takesBack 28 = .ok (.iaload, 1) := by decide +kernel
theorem dX11_takesBack_29 : decode cX11_takesBack 29 = .ok (.iadd, 1) := by decide +kernel
theorem dX11_takesBack_30 : decode cX11_takesBack 30 = .ok (.iaload, 1) := by decide +kernel
theorem dX11_takesBack_31 : decode cX11_takesBack 31 = .ok (.iconst 1, 1) := by decide +kernel
theorem dX11_takesBack_32 : decode cX11_takesBack 32 = .ok (.if_icmp .ne 7, 3) := by decide +kernel
theorem dX11_takesBack_35 : decode cX11_takesBack 35 = .ok (.iconst 1, 1) := by decide +kernel
theorem dX11_takesBack_36 : decode cX11_takesBack 36 = .ok (.goto 4, 3) := by decide +kernel
theorem dX11_takesBack_39 : decode cX11_takesBack 39 = .ok (.iconst 0, 1) := by decide +kernel
theorem dX11_takesBack_40 : decode cX11_takesBack 40 = .ok (.isub, 1) := by decide +kernel
theorem dX11_takesBack_41 : decode cX11_takesBack 41 = .ok (.iastore, 1) := by decide +kernel
theorem dX11_takesBack_42 : decode cX11_takesBack 42 = .ok (.return_, 1) := by decide +kernel
theorem dX11_undo_0 : decode cX11_undo 0 = .ok (.aload_n 0, 1) := by decide +kernel
theorem dX11_undo_1 : decode cX11_undo 1 = .ok (.getfield 9, 3) := by decide +kernel
theorem dX11_undo_4 : decode cX11_undo 4 = .ok (.iconst 5, 1) := by decide +kernel
theorem dX11_undo_5 : decode cX11_undo 5 = .ok (.iaload, 1) := by decide +kernel
theorem dX11_undo_6 : decode cX11_undo 6 = .ok (.ifCond .ne 6, 3) := by decide +kernel
theorem dX11_undo_9 : decode cX11_undo 9 = .ok (.bipush (-2), 2) := by decide +kernel
theorem dX11_undo_11 : decode cX11_undo 11 = .ok (.ireturn, 1) := by decide +kernel
theorem dX11_undo_12 : decode cX11_undo 12 = .ok (.aload_n 0, 1) := by decide +kernel
theorem dX11_undo_13 : decode cX11_undo 13 = .ok (.getfield 9, 3) := by decide +kernel
theorem dX11_undo_16 : decode cX11_undo 16 = .ok (.iconst 2, 1) := by decide +kernel
theorem dX11_undo_17 : decode cX11_undo 17 = .ok (.iaload, 1) := by decide +kernel
theorem dX11_undo_18 : decode cX11_undo 18 = .ok (.aload_n 0, 1) := by decide +kernel
theorem dX11_undo_19 : decode cX11_undo 19 = .ok (.getfield 9, 3) := by decide +kernel
theorem dX11_undo_22 : decode cX11_undo 22 = .ok (.iconst 4, 1) := by decide +kernel
theorem dX11_undo_23 : decode cX11_undo 23 = .ok (.iaload, 1) := by decide +kernel
theorem dX11_undo_24 : decode cX11_undo 24 = .ok (.if_icmp .ne 6, 3) := by decide +kernel
theorem dX11_undo_27 : decode cX11_undo 27 = .ok (.bipush (-5), 2) := by decide +kernel
theorem dX11_undo_29 : decode cX11_undo 29 = .ok (.ireturn, 1) := by decide +kernel
theorem dX11_undo_30 : decode cX11_undo 30 = .ok (.aload_n 0, 1) := by decide +kernel
theorem dX11_undo_31 : decode cX11_undo 31 = .ok (.invokevirtual 328, 3) := by decide +kernel
theorem dX11_undo_34 : decode cX11_undo 34 = .ok (.aload_n 0, 1) := by decide +kernel
theorem dX11_undo_35 : decode cX11_undo 35 = .ok (.getfield 9, 3) := by decide +kernel
theorem dX11_undo_38 : decode cX11_undo 38 = .ok (.iconst 2, 1) := by decide +kernel
theorem dX11_undo_39 : decode cX11_undo 39 = .ok (.iaload, 1) := by decide +kernel
theorem dX11_undo_40 : decode cX11_undo 40 = .ok (.aload_n 0, 1) := by decide +kernel
theorem dX11_undo_41 : decode cX11_undo 41 = .ok (.getfield 9, 3) := by decide +kernel
theorem dX11_undo_44 : decode cX11_undo 44 = .ok (.iconst 4, 1) := by decide +kernel
theorem dX11_undo_45 : decode cX11_undo 45 = .ok (.iaload, 1) := by decide +kernel
theorem dX11_undo_46 : decode cX11_undo 46 = .ok (.isub, 1) := by decide +kernel
theorem dX11_undo_47 : decode cX11_undo 47 = .ok (.ireturn, 1) := by decide +kernel
theorem dX11_anew_0 : decode cX11_anew 0 = .ok (.aload_n 0, 1) := by decide +kernel
theorem dX11_anew_1 : decode cX11_anew 1 = .ok (.getfield 9, 3) := by decide +kernel
theorem dX11_anew_4 : decode cX11_anew 4 = .ok (.iconst 5, 1) := by decide +kernel
theorem dX11_anew_5 : decode cX11_anew 5 = .ok (.iaload, 1) := by decide +kernel
theorem dX11_anew_6 : decode cX11_anew 6 = .ok (.ifCond .ne 6, 3) := by decide +kernel
theorem dX11_anew_9 : decode cX11_anew 9 = .ok (.bipush (-2), 2) := by decide +kernel
theorem dX11_anew_11 : decode cX11_anew 11 = .ok (.ireturn, 1) := by decide +kernel
theorem dX11_anew_12 : decode cX11_anew 12 = .ok (.aload_n 0, 1) := by decide +kernel
theorem dX11_anew_13 : decode cX11_anew 13 = .ok (.getfield 9, 3) := by decide +kernel
theorem dX11_anew_16 : decode cX11_anew 16 = .ok (.iconst 2, 1) := by decide +kernel
theorem dX11_anew_17 : decode cX11_anew 17 = .ok (.iaload, 1) := by decide +kernel
theorem dX11_anew_18 : decode cX11_anew 18 = .ok (.aload_n 0, 1) := by decide +kernel
theorem dX11_anew_19 : decode cX11_anew 19 = .ok (.getfield 9, 3) := by decide +kernel
theorem dX11_anew_22 : decode cX11_anew 22 = .ok (.iconst 4, 1) := by decide +kernel
theorem dX11_anew_23 : decode cX11_anew 23 = .ok (.iaload, 1) := by decide +kernel
theorem dX11_anew_24 : decode cX11_anew 24 = .ok (.isub, 1) := by decide +kernel
theorem dX11_anew_25 : decode cX11_anew 25 = .ok (.istore_n 1, 1) := by decide +kernel
theorem dX11_anew_26 : decode cX11_anew 26 = .ok (.aload_n 0, 1) := by decide +kernel
theorem dX11_anew_27 : decode cX11_anew 27 = .ok (.getfield 9, 3) := by decide +kernel
theorem dX11_anew_30 : decode cX11_anew 30 = .ok (.iconst 2, 1) := by decide +kernel
theorem dX11_anew_31 : decode cX11_anew 31 = .ok (.iaload, 1) := by decide +kernel
theorem dX11_anew_32 : decode cX11_anew 32 = .ok (.aload_n 0, 1) := by decide +kernel
theorem dX11_anew_33 : decode cX11_anew 33 = .ok (.getfield 9, 3) := by decide +kernel
theorem dX11_anew_36 : decode cX11_anew 36 = .ok (.iconst 4, 1) := by decide +kernel
theorem dX11_anew_37 : decode cX11_anew 37 = .ok (.iaload, 1) := by decide +kernel
theorem dX11_anew_38 : decode cX11_anew 38 = .ok (.if_icmp .le 10, 3) := by decide +kernel
theorem dX11_anew_41 : decode cX11_anew 41 = .ok (.aload_n 0, 1) := by decide +kernel
theorem dX11_anew_42 : decode cX11_anew 42 = .ok (.invokevirtual 328, 3) := by decide +kernel
theorem dX11_anew_45 : decode cX11_anew 45 = .ok (.goto (-19), 3) := by decide +kernel
theorem dX11_anew_48 : decode cX11_anew 48 = .ok (.iload_n 1, 1) := by decide +kernel
theorem dX11_anew_49 : decode cX11_anew 49 = .ok (.ireturn, 1) := by decide +kernel
theorem dJ6_compare_7cf53_0 : decode cJ6_compare_7cf53 0 = .ok (.iload_n 0, 1) := by decide +kernel
theorem dJ6_compare_7cf53_1 : decode cJ6_compare_7cf53 1 = .ok (.iload_n 1, 1) := by decide +kernel
theorem dJ6_compare_7cf53_2 : decode cJ6_compare_7cf53 2 = .ok (.if_icmp .ge 7, 3) := by decide +kernel
theorem dJ6_compare_7cf53_5 : decode cJ6_compare_7cf53 5 = .ok (.iconst (-1), 1) := by decide +kernel
theorem dJ6_compare_7cf53_6 : decode cJ6_compare_7cf53 6 = .ok (.goto 13, 3) := by decide +kernel
theorem dJ6_compare_7cf53_9 : decode cJ6_compare_7cf53 9 = .ok (.iload_n 0, 1) := by decide +kernel
theorem dJ6_compare_7cf53_10 : decode cJ6_compare_7cf53 10 = .ok (.iload_n 1, 1) := by decide +kernel
theorem dJ6_compare_7cf53_11 : decode cJ6_compare_7cf53 11 = .ok (.if_icmp .ne 7, 3) := by decide +kernel
theorem dJ6_compare_7cf53_14 : decode cJ6_compare_7cf53 14 = .ok (.iconst 0, 1) := by decide +kernel
theorem dJ6_compare_7cf53_15 : decode cJ6_compare_7cf53 15 = .ok (.goto 4, 3) := by decide +kernel
theorem dJ6_compare_7cf53_18 : decode cJ6_compare_7cf53 18 = .ok (.iconst 1, 1) := by decide +kernel
theorem dJ6_compare_7cf53_19 : decode cJ6_compare_7cf53 19 = .ok (.ireturn, 1) := by decide +kernel
theorem dJ6_bitCount_0f7a4_0 : decode cJ6_bitCount_0f7a4 0 = .ok (.iload_n 0, 1) := by decide +kernel
theorem dJ6_bitCount_0f7a4_1 : decode cJ6_bitCount_0f7a4 1 = .ok (.iload_n 0, 1) := by decide +kernel
theorem dJ6_bitCount_0f7a4_2 : decode cJ6_bitCount_0f7a4 2 = .ok (.iconst 1, 1) := by decide +kernel
theorem dJ6_bitCount_0f7a4_3 : decode cJ6_bitCount_0f7a4 3 = .ok (.iushr, 1) := by decide +kernel
theorem dJ6_bitCount_0f7a4_4 : decode cJ6_bitCount_0f7a4 4 = .ok (.ldc_w 265, 3) := by decide +kernel
theorem dJ6_bitCount_0f7a4_7 : decode cJ6_bitCount_0f7a4 7 = .ok (.iand, 1) := by decide +kernel
theorem dJ6_bitCount_0f7a4_8 : decode cJ6_bitCount_0f7a4 8 = .ok (.isub, 1) := by decide +kernel
theorem dJ6_bitCount_0f7a4_9 : decode cJ6_bitCount_0f7a4 9 = .ok (.istore_n 0, 1) := by decide +kernel
theorem dJ6_bitCount_0f7a4_10 : decode cJ6_bitCount_0f7a4 10 = .ok (.iload_n 0, 1) := by decide +kernel
theorem dJ6_bitCount_0f7a4_11 : decode cJ6_bitCount_0f7a4 11 = .ok (.ldc_w 266, 3) := by decide +kernel
theorem dJ6_bitCount_0f7a4_14 : decode cJ6_bitCount_0f7a4 14 = .ok (.iand, 1) := by decide +kernel
theorem dJ6_bitCount_0f7a4_15 : decode cJ6_bitCount_0f7a4 15 = .ok (.iload_n 0, 1) := by decide +kernel
theorem dJ6_bitCount_0f7a4_16 : decode cJ6_bitCount_0f7a4 16 = .ok (.iconst 2, 1) := by decide +kernel
theorem dJ6_bitCount_0f7a4_17 : decode cJ6_bitCount_0f7a4 17 = .ok (.iushr, 1) := by decide +kernel
theorem dJ6_bitCount_0f7a4_18 : decode cJ6_bitCount_0f7a4 18 = .ok (.ldc_w 266, 3) := by decide +kernel
theorem dJ6_bitCount_0f7a4_21 : decode cJ6_bitCount_0f7a4 21 = .ok (.iand, 1) := by decide +kernel
theorem dJ6_bitCount_0f7a4_22 : decode cJ6_bitCount_0f7a4 22 = .ok (.iadd, 1) := by decide +kernel
theorem dJ6_bitCount_0f7a4_23 : decode cJ6_bitCount_0f7a4 23 = .ok (.istore_n 0, 1) := by decide +kernel
theorem dJ6_bitCount_0f7a4_24 : decode cJ6_bitCount_0f7a4 24 = .ok (.iload_n 0, 1) := by decide +kernel
theorem dJ6_bitCount_0f7a4_25 : decode cJ6_bitCount_0f7a4 25 = .ok (.iload_n 0, 1) := by decide +kernel
theorem dJ6_bitCount_0f7a4_26 : decode cJ6_bitCount_0f7a4 26 = .ok (.iconst 4, 1) := by decide +kernel
theorem dJ6_bitCount_0f7a4_27 : decode cJ6_bitCount_0f7a4 27 = .ok (.iushr, 1) := by decide +kernel
theorem dJ6_bitCount_0f7a4_28 : decode cJ6_bitCount_0f7a4 28 = .ok (.iadd, 1) := by decide +kernel
theorem dJ6_bitCount_0f7a4_29 : decode cJ6_bitCount_0f7a4 29 = .ok (.ldc_w 267, 3) := by decide +kernel
theorem dJ6_bitCount_0f7a4_32 : decode cJ6_bitCount_0f7a4 32 = .ok (.iand, 1) := by decide +kernel
theorem dJ6_bitCount_0f7a4_33 : decode cJ6_bitCount_0f7a4 33 = .ok (.istore_n 0, 1) := by decide +kernel
theorem dJ6_bitCount_0f7a4_34 : decode cJ6_bitCount_0f7a4 34 = .ok (.iload_n 0, 1) := by decide +kernel
theorem dJ6_bitCount_0f7a4_35 : decode cJ6_bitCount_0f7a4 35 = .ok (.iload_n 0, 1) := by decide +kernel
theorem dJ6_bitCount_0f7a4_36 : decode cJ6_bitCount_0f7a4 36 = .ok (.bipush 8, 2) := by decide +kernel
theorem dJ6_bitCount_0f7a4_38 : decode cJ6_bitCount_0f7a4 38 = .ok (.iushr, 1) := by decide +kernel
theorem dJ6_bitCount_0f7a4_39 : decode cJ6_bitCount_0f7a4 39 = .ok (.iadd, 1) := by decide +kernel
theorem dJ6_bitCount_0f7a4_40 : decode cJ6_bitCount_0f7a4 40 = .ok (.istore_n 0, 1) := by decide +kernel
theorem dJ6_bitCount_0f7a4_41 : decode cJ6_bitCount_0f7a4 41 = .ok (.iload_n 0, 1) := by decide +kernel
theorem dJ6_bitCount_0f7a4_42 : decode cJ6_bitCount_0f7a4 42 = .ok (.iload_n 0, 1) := by decide +kernel
theorem dJ6_bitCount_0f7a4_43 : decode cJ6_bitCount_0f7a4 43 = .ok (.bipush 16, 2) := by decide +kernel
theorem dJ6_bitCount_0f7a4_45 : decode cJ6_bitCount_0f7a4 45 = .ok (.iushr, 1) := by decide +kernel
theorem dJ6_bitCount_0f7a4_46 : decode cJ6_bitCount_0f7a4 46 = .ok (.iadd, 1) := by decide +kernel
theorem dJ6_bitCount_0f7a4_47 : decode cJ6_bitCount_0f7a4 47 = .ok (.istore_n 0, 1) := by decide +kernel
theorem dJ6_bitCount_0f7a4_48 : decode cJ6_bitCount_0f7a4 48 = .ok (.iload_n 0, 1) := by decide +kernel
theorem dJ6_bitCount_0f7a4_49 : decode cJ6_bitCount_0f7a4 49 = .ok (.bipush 63, 2) := by decide +kernel
theorem dJ6_bitCount_0f7a4_51 : decode cJ6_bitCount_0f7a4 51 = .ok (.iand, 1) := by decide +kernel
theorem dJ6_bitCount_0f7a4_52 : decode cJ6_bitCount_0f7a4 52 = .ok (.ireturn, 1) := by decide +kernel
theorem dJ9_max_7cf53_0 : decode cJ9_max_7cf53 0 = .ok (.iload_n 0, 1) := by decide +kernel
theorem dJ9_max_7cf53_1 : decode cJ9_max_7cf53 1 = .ok (.iload_n 1, 1) := by decide +kernel
theorem dJ9_max_7cf53_2 : decode cJ9_max_7cf53 2 = .ok (.if_icmp .lt 7, 3) := by decide +kernel
theorem dJ9_max_7cf53_5 : decode cJ9_max_7cf53 5 = .ok (.iload_n 0, 1) := by decide +kernel
theorem dJ9_max_7cf53_6 : decode cJ9_max_7cf53 6 = .ok (.goto 4, 3) := by decide +kernel
theorem dJ9_max_7cf53_9 : decode cJ9_max_7cf53 9 = .ok (.iload_n 1, 1) := by decide +kernel
theorem dJ9_max_7cf53_10 : decode cJ9_max_7cf53 10 = .ok (.ireturn, 1) := by decide +kernel
theorem dJ9_min_7cf53_0 : decode cJ9_min_7cf53 0 = .ok (.iload_n 0, 1) := by decide +kernel
theorem dJ9_min_7cf53_1 : decode cJ9_min_7cf53 1 = .ok (.iload_n 1, 1) := by decide +kernel
theorem dJ9_min_7cf53_2 : decode cJ9_min_7cf53 2 = .ok (.if_icmp .gt 7, 3) := by decide +kernel
theorem dJ9_min_7cf53_5 : decode cJ9_min_7cf53 5 = .ok (.iload_n 0, 1) := by decide +kernel
theorem dJ9_min_7cf53_6 : decode cJ9_min_7cf53 6 = .ok (.goto 4, 3) := by decide +kernel
theorem dJ9_min_7cf53_9 : decode cJ9_min_7cf53 9 = .ok (.iload_n 1, 1) := by decide +kernel
theorem dJ9_min_7cf53_10 : decode cJ9_min_7cf53 10 = .ok (.ireturn, 1) := by decide +kernel
theorem dJ0_length_8abf5_0 : decode cJ0_length_8abf5 0 = .ok (.aload_n 0, 1) := by decide +kernel
theorem dJ0_length_8abf5_1 : decode cJ0_length_8abf5 1 = .ok (.getfield 9, 3) := by decide +kernel
theorem dJ0_length_8abf5_4 : decode cJ0_length_8abf5 4 = .ok (.arraylength, 1) := by decide +kernel
theorem dJ0_length_8abf5_5 : decode cJ0_length_8abf5 5 = .ok (.aload_n 0, 1) := by decide +kernel
theorem dJ0_length_8abf5_6 : decode cJ0_length_8abf5 6 = .ok (.invokevirtual 335, 3) := by decide +kernel
theorem dJ0_length_8abf5_9 : decode cJ0_length_8abf5 9 = .ok (.ishr, 1) := by decide +kernel
theorem dJ0_length_8abf5_10 : decode cJ0_length_8abf5 10 = .ok (.ireturn, 1) := by decide +kernel
theorem dJ0_charAt_5068e_0 : decode cJ0_charAt_5068e 0 = .ok (.aload_n 0, 1) := by decide +kernel
theorem dJ0_charAt_5068e_1 : decode cJ0_charAt_5068e 1 = .ok (.invokevirtual 492, 3) := by decide +kernel
theorem dJ0_charAt_5068e_4 : decode cJ0_charAt_5068e 4 = .ok (.ifCond .eq 12, 3) := by decide +kernel
theorem dJ0_charAt_5068e_7 : decode cJ0_charAt_5068e 7 = .ok (.aload_n 0, 1) := by decide +kernel
theorem dJ0_charAt_5068e_8 : decode cJ0_charAt_5068e 8 = .ok (.getfield 9, 3) := by decide +kernel
theorem dJ0_charAt_5068e_11 : decode cJ0_charAt_5068e 11 = .ok (.iload_n 1, 1) := by decide +kernel
theorem dJ0_charAt_5068e_12 : decode cJ0_charAt_5068e 12 = .ok (.invokestatic 495, 3) := by decide +kernel
theorem dJ0_charAt_5068e_15 : decode cJ0_charAt_5068e 15 = .ok (.ireturn, 1) := by decide +kernel
theorem dJ0_charAt_5068e_16 : decode cJ0_charAt_5068e 16 = .ok (.aload_n 0, 1) := by decide +kernel
theorem dJ0_charAt_5068e_17 : decode cJ0_charAt_5068e 17 = .ok (.getfield 9, 3) := by decide +kernel
theorem dJ0_charAt_5068e_20 : decode cJ0_charAt_5068e 20 = .ok (.iload_n 1, 1) := by decide +kernel
theorem dJ0_charAt_5068e_21 : decode cJ0_charAt_5068e 21 = .ok (.invokestatic 498, 3) := by decide +kernel
theorem dJ0_charAt_5068e_24 : decode cJ0_charAt_5068e 24 = .ok (.ireturn, 1) := by decide +kernel
theorem dJ0_coder_7d493_0 : decode cJ0_coder_7d493 0 = .ok (.getstatic 38, 3) := by decide +kernel
theorem dJ0_coder_7d493_3 : decode cJ0_coder_7d493 3 = .ok (.ifCond .eq 10, 3) := by decide +kernel
theorem dJ0_coder_7d493_6 : decode cJ0_coder_7d493 6 = .ok (.aload_n 0, 1) := by decide +kernel
theorem dJ0_coder_7d493_7 : decode cJ0_coder_7d493 7 = .ok (.getfield 15, 3) := by decide +kernel
theorem dJ0_coder_7d493_10 : decode cJ0_coder_7d493 10 = .ok (.goto 4, 3) := by decide +kernel
theorem dJ0_coder_7d493_13 : decode cJ0_coder_7d493 13 = .ok (.iconst 1, 1) := by decide +kernel
theorem dJ0_coder_7d493_14 : decode cJ0_coder_7d493 14 = .ok (.ireturn, 1) := by decide +kernel
theorem dJ0_isLatin1_aae02_0 : decode cJ0_isLatin1_aae02 0 = .ok (.getstatic 38, 3) := by decide +kernel
theorem dJ0_isLatin1_aae02_3 : decode cJ0_isLatin1_aae02 3 = .ok (.ifCond .eq 14, 3) := by decide +kernel
theorem dJ0_isLatin1_aae02_6 : decode cJ0_isLatin1_aae02 6 = .ok (.aload_n 0, 1) := by decide +kernel
theorem dJ0_isLatin1_aae02_7 : decode cJ0_isLatin1_aae02 7 = .ok (.getfield 15, 3) := by decide +kernel
theorem dJ0_isLatin1_aae02_10 : decode cJ0_isLatin1_aae02 10 = .ok (.ifCond .ne 7, 3) := by decide +kernel
theorem dJ0_isLatin1_aae02_13 : decode cJ0_isLatin1_aae02 13 = .ok (.iconst 1, 1) := by decide +kernel
theorem dJ0_isLatin1_aae02_14 : decode cJ0_isLatin1_aae02 14 = .ok (.goto 4, 3) := by decide +kernel
theorem dJ0_isLatin1_aae02_17 : decode cJ0_isLatin1_aae02 17 = .ok (.iconst 0, 1) := by decide +kernel
theorem dJ0_isLatin1_aae02_18 : decode cJ0_isLatin1_aae02 18 = .ok (.ireturn, 1) := by decide +kernel
theorem dJ0_checkIndex_df160_0 : decode cJ0_checkIndex_df160 0 = .ok (.iload_n 0, 1) := by decide +kernel
theorem dJ0_checkIndex_df160_1 : decode cJ0_checkIndex_df160 1 = .ok (.iload_n 1, 1) := by decide +kernel
theorem dJ0_checkIndex_df160_2 : decode cJ0_checkIndex_df160 2 = .ok (.getstatic 1053, 3) := by decide +kernel
theorem dJ0_checkIndex_df160_5 : decode cJ0_checkIndex_df160 5 = .ok (.invokestatic 1059, 3) := by decide +kernel
theorem dJ0_checkIndex_df160_8 : decode cJ0_checkIndex_df160 8 = .ok (.pop, 1) := by decide +kernel
theorem dJ0_checkIndex_df160_9 : decode cJ0_checkIndex_df160 9 = .ok (.return_, 1) := by decide +kernel
theorem dJ1_charAt_3b067_0 : decode cJ1_charAt_3b067 0 = .ok (.iload_n 1, 1) := by decide +kernel
theorem dJ1_charAt_3b067_1 : decode cJ1_charAt_3b067 1 = .ok (.aload_n 0, 1) := by decide +kernel
theorem dJ1_charAt_3b067_2 : decode cJ1_charAt_3b067 2 = .ok (.arraylength, 1) := by decide +kernel
theorem dJ1_charAt_3b067_3 : decode cJ1_charAt_3b067 3 = .ok (.invokestatic 9, 3) := by decide +kernel
theorem dJ1_charAt_3b067_6 : decode cJ1_charAt_3b067 6 = .ok (.aload_n 0, 1) := by decide +kernel
theorem dJ1_charAt_3b067_7 : decode cJ1_charAt_3b067 7 = .ok (.iload_n 1, 1) := by decide +kernel
theorem dJ1_charAt_3b067_8 : decode cJ1_charAt_3b067 8 = .ok (.baload, 1) := by decide +kernel
theorem dJ1_charAt_3b067_9 : decode cJ1_charAt_3b067 9 = .ok (.sipush 255, 3) := by decide +kernel
theorem dJ1_charAt_3b067_12 : decode cJ1_charAt_3b067 12 = .ok (.iand, 1) := by decide +kernel
theorem dJ1_charAt_3b067_13 : decode cJ1_charAt_3b067 13 = .ok (.i2c, 1) := by decide +kernel
theorem dJ1_charAt_3b067_14 : decode cJ1_charAt_3b067 14 = .ok (.ireturn, 1) := by decide +kernel
theorem dJ2_getChar_3b067_0 : decode cJ2_getChar_3b067 0 = .ok (.getstatic 44, 3) := by decide +kernel
theorem dJ2_getChar_3b067_3 : decode cJ2_getChar_3b067 3 = .ok (.ifCond .ne 25, 3) := by decide +kernel
theorem dJ2_getChar_3b067_6 : decode cJ2_getChar_3b067 6 = .ok (.iload_n 1, 1) := by decide +kernel
theorem dJ2_getChar_3b067_7 : decode cJ2_getChar_3b067 7 = .ok (.ifCond .lt 11, 3) := by decide +kernel
theorem dJ2_getChar_3b067_10 : decode cJ2_getChar_3b067 10 = .ok (.iload_n 1, 1) := by decide +kernel
theorem dJ2_getChar_3b067_11 : decode cJ2_getChar_3b067 11 = .ok (.aload_n 0, 1) := by decide +kernel
theorem dJ2_getChar_3b067_12 : decode cJ2_getChar_3b067 12 = .ok (.invokestatic 48, 3) := by decide +kernel
theorem dJ2_getChar_3b067_15 : decode cJ2_getChar_3b067 15 = .ok (.if_icmp .lt 13, 3) := by decide +kernel
theorem dJ2_getChar_3b067_18 : decode cJ2_getChar_3b067 18 = .ok (.new 52, 3) := by decide +kernel
theorem dJ2_getChar_3b067_21 : decode cJ2_getChar_3b067 21 = .ok (.dup, 1) := by decide +kernel
theorem dJ2_getChar_3b067_22 : decode cJ2_getChar_3b067 22 = .ok (.ldc 54, 2) := by decide +kernel
theorem dJ2_getChar_3b067_24 : decode cJ2_getChar_3b067 24 = .ok (.invokespecial 56, 3) := by decide +kernel
theorem dJ2_getChar_3b067_27 : decode cJ2_getChar_3b067 27 = .ok (.athrow, 1) := by decide +kernel
theorem dJ2_getChar_3b067_28 : decode cJ2_getChar_3b067 28 = .ok (.iload_n 1, 1) := by decide +kernel
theorem dJ2_getChar_3b067_29 : decode cJ2_getChar_3b067 29 = .ok (.iconst 1, 1) := by decide +kernel
theorem dJ2_getChar_3b067_30 : decode cJ2_getChar_3b067 30 = .ok (.ishl, 1) := by decide +kernel
theorem dJ2_getChar_3b067_31 : decode cJ2_getChar_3b067 31 = .ok (.istore_n 1, 1) := by decide +kernel
theorem dJ2_getChar_3b067_32 : decode cJ2_getChar_3b067 32 = .ok (.aload_n 0, 1) := by decide +kernel
theorem dJ2_getChar_3b067_33 : decode cJ2_getChar_3b067 33 = .ok (.iload_n 1, 1) := by decide +kernel
theorem dJ2_getChar_3b067_34 : decode cJ2_getChar_3b067 34 = .ok (.iinc 1 1, 3) := by decide +kernel
theorem dJ2_getChar_3b067_37 : decode cJ2_getChar_3b067 37 = .ok (.baload, 1) := by decide +kernel
theorem dJ2_getChar_3b067_38 : decode cJ2_getChar_3b067 38 = .ok (.sipush 255, 3) := by decide +kernel
theorem dJ2_getChar_3b067_41 : decode cJ2_getChar_3b067 41 = .ok (.iand, 1) := by decide +kernel
theorem dJ2_getChar_3b067_42 : decode cJ2_getChar_3b067 42 = .ok (.getstatic 59, 3) := by decide +kernel
theorem dJ2_getChar_3b067_45 : decode cJ2_getChar_3b067 45 = .ok (.ishl, 1) := by decide +kernel
theorem dJ2_getChar_3b067_46 : decode cJ2_getChar_3b067 46 = .ok (.aload_n 0, 1) := by decide +kernel
theorem dJ2_getChar_3b067_47 : decode cJ2_getChar_3b067 47 = .ok (.iload_n 1, 1) := by decide +kernel
theorem dJ2_getChar_3b067_48 : decode cJ2_getChar_3b067 48 = .ok (.baload, 1) := by decide +kernel
theorem dJ2_getChar_3b067_49 : decode cJ2_getChar_3b067 49 = .ok (.sipush 255, 3) := by decide +kernel
theorem dJ2_getChar_3b067_52 : decode cJ2_getChar_3b067 52 = .ok (.iand, 1) := by decide +kernel
theorem dJ2_getChar_3b067_53 : decode cJ2_getChar_3b067 53 = .ok (.getstatic 63, 3) := by decide +kernel
theorem dJ2_getChar_3b067_56 : decode cJ2_getChar_3b067 56 = .ok (.ishl, 1) := by decide +kernel
theorem dJ2_getChar_3b067_57 : decode cJ2_getChar_3b067 57 = .ok (.ior, 1) := by decide +kernel
theorem dJ2_getChar_3b067_58 : decode cJ2_getChar_3b067 58 = .ok (.i2c, 1) := by decide +kernel
theorem dJ2_getChar_3b067_59 : decode cJ2_getChar_3b067 59 = .ok (.ireturn, 1) := by decide +kernel
theorem dJ2_length_9d52b_0 : decode cJ2_length_9d52b 0 = .ok (.aload_n 0, 1) := by decide +kernel
theorem dJ2_length_9d52b_1 : decode cJ2_length_9d52b 1 = .ok (.arraylength, 1) := by decide +kernel
theorem dJ2_length_9d52b_2 : decode cJ2_length_9d52b 2 = .ok (.iconst 1, 1) := by decide +kernel
theorem dJ2_length_9d52b_3 : decode cJ2_length_9d52b 3 = .ok (.ishr, 1) := by decide +kernel
theorem dJ2_length_9d52b_4 : decode cJ2_length_9d52b 4 = .ok (.ireturn, 1) := by decide +kernel
theorem dJ2_charAt_3b067_0 : decode cJ2_charAt_3b067 0 = .ok (.iload_n 1, 1) := by decide +kernel
theorem dJ2_charAt_3b067_1 : decode cJ2_charAt_3b067 1 = .ok (.aload_n 0, 1) := by decide +kernel
theorem dJ2_charAt_3b067_2 : decode cJ2_charAt_3b067 2 = .ok (.invokestatic 67, 3) := by decide +kernel
theorem dJ2_charAt_3b067_5 : decode cJ2_charAt_3b067 5 = .ok (.aload_n 0, 1) := by decide +kernel
theorem dJ2_charAt_3b067_6 : decode cJ2_charAt_3b067 6 = .ok (.iload_n 1, 1) := by decide +kernel
theorem dJ2_charAt_3b067_7 : decode cJ2_charAt_3b067 7 = .ok (.invokestatic 71, 3) := by decide +kernel
theorem dJ2_charAt_3b067_10 : decode cJ2_charAt_3b067 10 = .ok (.ireturn, 1) := by decide +kernel
theorem dJ2_checkIndex_2214a_0 : decode cJ2_checkIndex_2214a 0 = .ok (.iload_n 0, 1) := by decide +kernel
theorem dJ2_checkIndex_2214a_1 : decode cJ2_checkIndex_2214a 1 = .ok (.aload_n 1, 1) := by decide +kernel
theorem dJ2_checkIndex_2214a_2 : decode cJ2_checkIndex_2214a 2 = .ok (.invokestatic 48, 3) := by decide +kernel
theorem dJ2_checkIndex_2214a_5 : decode cJ2_checkIndex_2214a 5 = .ok (.invokestatic 414, 3) := by decide +kernel
theorem dJ2_checkIndex_2214a_8 : decode cJ2_checkIndex_2214a 8 = .ok (.return_, 1) := by decide +kernel
theorem dJ3_checkIndex_8e157_0 : decode cJ3_checkIndex_8e157 0 = .ok (.iload_n 0, 1) := by decide +kernel
theorem dJ3_checkIndex_8e157_1 : decode cJ3_checkIndex_8e157 1 = .ok (.ifCond .lt 8, 3) := by decide +kernel
theorem dJ3_checkIndex_8e157_4 : decode cJ3_checkIndex_8e157 4 = .ok (.iload_n 0, 1) := by decide +kernel
theorem dJ3_checkIndex_8e157_5 : decode cJ3_checkIndex_8e157 5 = .ok (.iload_n 1, 1) := by decide +kernel
theorem dJ3_checkIndex_8e157_6 : decode cJ3_checkIndex_8e157 6 = .ok (.if_icmp .lt 10, 3) := by decide +kernel
theorem dJ3_checkIndex_8e157_9 : decode cJ3_checkIndex_8e157 9 = .ok (.aload_n 2, 1) := by decide +kernel
theorem dJ3_checkIndex_8e157_10 : decode cJ3_checkIndex_8e157 10 = .ok (.iload_n 0, 1) := by decide +kernel
theorem dJ3_checkIndex_8e157_11 : decode cJ3_checkIndex_8e157 11 = .ok (.iload_n 1, 1) := by decide +kernel
theorem dJ3_checkIndex_8e157_12 : decode cJ3_checkIndex_8e157 12 = .ok (.invokestatic 95, 3) := by decide +kernel
theorem dJ3_checkIndex_8e157_15 : decode cJ3_checkIndex_8e157 15 = .ok (.athrow, 1) := by decide +kernel
theorem dJ3_checkIndex_8e157_16 : decode cJ3_checkIndex_8e157 16 = .ok (.iload_n 0, 1) := by decide +kernel
theorem dJ3_checkIndex_8e157_17 : decode cJ3_checkIndex_8e157 17 = .ok (.ireturn, 1) := by decide +kernel
theorem dL_law_0 : decode cL_law 0 = .ok (.new 7, 3) := by decide +kernel
theorem dL_law_3 : decode cL_law 3 = .ok (.dup, 1) := by decide +kernel
theorem dL_law_4 : decode cL_law 4 = .ok (.invokespecial 9, 3) := by decide +kernel
theorem dL_law_7 : decode cL_law 7 = .ok (.astore_n 1, 1) := by decide +kernel
theorem dL_law_8 : decode cL_law 8 = .ok (.new 10, 3) := by decide +kernel
theorem dL_law_11 : decode cL_law 11 = .ok (.dup, 1) := by decide +kernel
theorem dL_law_12 : decode cL_law 12 = .ok (.invokespecial 12, 3) := by decide +kernel
theorem dL_law_15 : decode cL_law 15 = .ok (.astore_n 2, 1) := by decide +kernel
theorem dL_law_16 : decode cL_law 16 = .ok (.iconst 0, 1) := by decide +kernel
theorem dL_law_17 : decode cL_law 17 = .ok (.istore_n 3, 1) := by decide +kernel
theorem dL_law_18 : decode cL_law 18 = .ok (.iload_n 3, 1) := by decide +kernel
theorem dL_law_19 : decode cL_law 19 = .ok (.aload_n 0, 1) := by decide +kernel
theorem dL_law_20 : decode cL_law 20 = .ok (.arraylength, 1) := by decide +kernel
theorem dL_law_21 : decode cL_law 21 = .ok (.bipush 6, 2) := by decide +kernel
theorem dL_law_23 : decode cL_law 23 = .ok (.isub, 1) := by decide +kernel
theorem dL_law_24 : decode cL_law 24 = .ok (.if_icmp .gt 1337, 3) := by decide +kernel
theorem dL_law_27 : decode cL_law 27 = .ok (.aload_n 0, 1) := by decide +kernel
theorem dL_law_28 : decode cL_law 28 = .ok (.iload_n 3, 1) := by decide +kernel
theorem dL_law_29 : decode cL_law 29 = .ok (.iaload, 1) := by decide +kernel
theorem dL_law_30 : decode cL_law 30 = .ok (.bipush 63, 2) := by decide +kernel
theorem dL_law_32 : decode cL_law 32 = .ok (.iand, 1) := by decide +kernel
theorem dL_law_33 : decode cL_law 33 = .ok (.tableswitch 1322 0 40 #[179, 242, 265, 278, 301, 324, 357, 390, 413, 436, 469, 502, 525, 558, 591, 624, 657, 680, 703, 726, 759, 782, 795, 828, 841, 864, 887, 920, 953, 986, 1009, 1042, 1075, 1108, 1141, 1174, 1197, 1240, 1273, 1296, 1309], 179) := by decide +kernel
theorem dL_law_212 : decode cL_law 212 = .ok (.aload_n 1, 1) := by decide +kernel
theorem dL_law_213 : decode cL_law 213 = .ok (.aload_n 0, 1) := by decide +kernel
theorem dL_law_214 : decode cL_law 214 = .ok (.iload_n 3, 1) := by decide +kernel
theorem dL_law_215 : decode cL_law 215 = .ok (.iconst 1, 1) := by decide +kernel
theorem dL_law_216 : decode cL_law 216 = .ok (.iadd, 1) := by decide +kernel
theorem dL_law_217 : decode cL_law 217 = .ok (.iaload, 1) := by decide +kernel
theorem dL_law_218 : decode cL_law 218 = .ok (.aload_n 0, 1) := by decide +kernel
theorem dL_law_219 : decode cL_law 219 = .ok (.iload_n 3, 1) := by decide +kernel
theorem dL_law_220 : decode cL_law 220 = .ok (.iconst 2, 1) := by decide +kernel
theorem dL_law_221 : decode cL_law 221 = .ok (.iadd, 1) := by decide +kernel
theorem dL_law_222 : decode cL_law 222 = .ok (.iaload, 1) := by decide +kernel
theorem dL_law_223 : decode cL_law 223 = .ok (.aload_n 0, 1) := by decide +kernel
theorem dL_law_224 : decode cL_law 224 = .ok (.iload_n 3, 1) := by decide +kernel
theorem dL_law_225 : decode cL_law 225 = .ok (.iconst 3, 1) := by decide +kernel
theorem dL_law_226 : decode cL_law 226 = .ok (.iadd, 1) := by decide +kernel
theorem dL_law_227 : decode cL_law 227 = .ok (.iaload, 1) := by decide +kernel
theorem dL_law_228 : decode cL_law 228 = .ok (.aload_n 0, 1) := by decide +kernel
theorem dL_law_229 : decode cL_law 229 = .ok (.iload_n 3, 1) := by decide +kernel
theorem dL_law_230 : decode cL_law 230 = .ok (.iconst 4, 1) := by decide +kernel
theorem dL_law_231 : decode cL_law 231 = .ok (.iadd, 1) := by decide +kernel
theorem dL_law_232 : decode cL_law 232 = .ok (.iaload, 1) := by decide +kernel
theorem dL_law_233 : decode cL_law 233 = .ok (.aload_n 0, 1) := by decide +kernel
theorem dL_law_234 : decode cL_law 234 = .ok (.iload_n 3, 1) := by decide +kernel
theorem dL_law_235 : decode cL_law 235 = .ok (.iconst 5, 1) := by decide +kernel
theorem dL_law_236 : decode cL_law 236 = .ok (.iadd, 1) := by decide +kernel
theorem dL_law_237 : decode cL_law 237 = .ok (.iaload, 1) := by decide +kernel
theorem dL_law_238 : decode cL_law 238 = .ok (.invokevirtual 13, 3) := by decide +kernel
theorem dL_law_241 : decode cL_law 241 = .ok (.aload_n 2, 1) := by decide +kernel
theorem dL_law_242 : decode cL_law 242 = .ok (.aload_n 0, 1) := by decide +kernel
theorem dL_law_243 : decode cL_law 243 = .ok (.iload_n 3, 1) := by decide +kernel
theorem dL_law_244 : decode cL_law 244 = .ok (.iconst 1, 1) := by decide +kernel
theorem dL_law_245 : decode cL_law 245 = .ok (.iadd, 1) := by decide +kernel
theorem dL_law_246 : decode cL_law 246 = .ok (.iaload, 1) := by decide +kernel
theorem dL_law_247 : decode cL_law 247 = .ok (.aload_n 0, 1) := by decide +kernel
theorem dL_law_248 : decode cL_law 248 = .ok (.iload_n 3, 1) := by decide +kernel
theorem dL_law_249 : decode cL_law 249 = .ok (.iconst 2, 1) := by decide +kernel
theorem dL_law_250 : decode cL_law 250 = .ok (.iadd, 1) := by decide +kernel
theorem dL_law_251 : decode cL_law 251 = .ok (.iaload, 1) := by decide +kernel
theorem dL_law_252 : decode cL_law 252 = .ok (.aload_n 0, 1) := by decide +kernel
theorem dL_law_253 : decode cL_law 253 = .ok (.iload_n 3, 1) := by decide +kernel
theorem dL_law_254 : decode cL_law 254 = .ok (.iconst 3, 1) := by decide +kernel
theorem dL_law_255 : decode cL_law 255 = .ok (.iadd, 1) := by decide +kernel
theorem dL_law_256 : decode cL_law 256 = .ok (.iaload, 1) := by decide +kernel
theorem dL_law_257 : decode cL_law 257 = .ok (.aload_n 0, 1) := by decide +kernel
theorem dL_law_258 : decode cL_law 258 = .ok (.iload_n 3, 1) := by decide +kernel
theorem dL_law_259 : decode cL_law 259 = .ok (.iconst 4, 1) := by decide +kernel
theorem dL_law_260 : decode cL_law 260 = .ok (.iadd, 1) := by decide +kernel
theorem dL_law_261 : decode cL_law 261 = .ok (.iaload, 1) := by decide +kernel
theorem dL_law_262 : decode cL_law 262 = .ok (.aload_n 0, 1) := by decide +kernel
theorem dL_law_263 : decode cL_law 263 = .ok (.iload_n 3, 1) := by decide +kernel
theorem dL_law_264 : decode cL_law 264 = .ok (.iconst 5, 1) := by decide +kernel
theorem dL_law_265 : decode cL_law 265 = .ok (.iadd, 1) := by decide +kernel
theorem dL_law_266 : decode cL_law 266 = .ok (.iaload, 1) := by decide +kernel
theorem dL_law_267 : decode cL_law 267 = .ok (.invokevirtual 17, 3) := by decide +kernel
theorem dL_law_270 : decode cL_law 270 = .ok (.if_icmp .eq 1085, 3) := by decide +kernel
theorem dL_law_273 : decode cL_law 273 = .ok (.iconst 0, 1) := by decide +kernel
theorem dL_law_274 : decode cL_law 274 = .ok (.ireturn, 1) := by decide +kernel
theorem dL_law_275 : decode cL_law 275 = .ok (.aload_n 1, 1) := by decide +kernel
theorem dL_law_276 : decode cL_law 276 = .ok (.aload_n 0, 1) := by decide +kernel
theorem dL_law_277 : decode cL_law 277 = .ok (.iload_n 3, 1) := by decide +kernel
theorem dL_law_278 : decode cL_law 278 = .ok (.iconst 1, 1) := by decide +kernel
theorem dL_law_279 : decode cL_law 279 = .ok (.iadd, 1) := by decide +kernel
theorem dL_law_280 : decode cL_law 280 = .ok (.iaload, 1) := by decide +kernel
theorem dL_law_281 : decode cL_law 281 = .ok (.invokevirtual 18, 3) := by decide +kernel
theorem dL_law_284 : decode cL_law 284 = .ok (.aload_n 2, 1) := by decide +kernel
theorem dL_law_285 : decode cL_law 285 = .ok (.aload_n 0, 1) := by decide +kernel
theorem dL_law_286 : decode cL_law 286 = .ok (.iload_n 3, 1) := by decide +kernel
theorem dL_law_287 : decode cL_law 287 = .ok (.iconst 1, 1) := by decide +kernel
theorem dL_law_288 : decode cL_law 288 = .ok (.iadd, 1) := by decide +kernel
theorem dL_law_289 : decode cL_law 289 = .ok (.iaload, 1) := by decide +kernel
theorem dL_law_290 : decode cL_law 290 = .ok (.invokevirtual 22, 3) := by decide +kernel
theorem dL_law_293 : decode cL_law 293 = .ok (.if_icmp .eq 1062, 3) := by decide +kernel
theorem dL_law_296 : decode cL_law 296 = .ok (.iconst 0, 1) := by decide +kernel
theorem dL_law_297 : decode cL_law 297 = .ok (.ireturn, 1) := by decide +kernel
theorem dL_law_298 : decode cL_law 298 = .ok (.aload_n 1, 1) := by decide +kernel
theorem dL_law_299 : decode cL_law 299 = .ok (.invokevirtual 23, 3) := by decide +kernel
theorem dL_law_302 : decode cL_law 302 = .ok (.aload_n 2, 1) := by decide +kernel
theorem dL_law_303 : decode cL_law 303 = .ok (.invokevirtual 27, 3) := by decide +kernel
theorem dL_law_306 : decode cL_law 306 = .ok (.if_icmp .eq 1049, 3) := by decide +kernel
theorem dL_law_309 : decode cL_law 309 = .ok (.iconst 0, 1) := by decide +kernel
theorem dL_law_310 : decode cL_law 310 = .ok (.ireturn, 1) := by decide +kernel
theorem dL_law_311 : decode cL_law 311 = .ok (.aload_n 1, 1) := by decide +kernel
theorem dL_law_312 : decode cL_law 312 = .ok (.aload_n 0, 1) := by decide +kernel
theorem dL_law_313 : decode cL_law 313 = .ok (.iload_n 3, 1) := by decide +kernel
theorem dL_law_314 : decode cL_law 314 = .ok (.iconst 1, 1) := by decide +kernel
theorem dL_law_315 : decode cL_law 315 = .ok (.iadd, 1) := by decide +kernel
theorem dL_law_316 : decode cL_law 316 = .ok (.iaload, 1) := by decide +kernel
theorem dL_law_317 : decode cL_law 317 = .ok (.invokevirtual 28, 3) := by decide +kernel
theorem dL_law_320 : decode cL_law 320 = .ok (.aload_n 2, 1) := by decide +kernel
theorem dL_law_321 : decode cL_law 321 = .ok (.aload_n 0, 1) := by decide +kernel
theorem dL_law_322 : decode cL_law 322 = .ok (.iload_n 3, 1) := by decide +kernel
theorem dL_law_323 : decode cL_law 323 = .ok (.iconst 1, 1) := by decide +kernel
theorem dL_law_324 : decode cL_law 324 = .ok (.iadd, 1) := by decide +kernel
theorem dL_law_325 : decode cL_law 325 = .ok (.iaload, 1) := by decide +kernel
theorem dL_law_326 : decode cL_law 326 = .ok (.invokevirtual 31, 3) := by decide +kernel
theorem dL_law_329 : decode cL_law 329 = .ok (.if_icmp .eq 1026, 3) := by decide +kernel
theorem dL_law_332 : decode cL_law 332 = .ok (.iconst 0, 1) := by decide +kernel
theorem dL_law_333 : decode cL_law 333 = .ok (.ireturn, 1) := by decide +kernel
theorem dL_law_334 : decode cL_law 334 = .ok (.aload_n 1, 1) := by decide +kernel
theorem dL_law_335 : decode cL_law 335 = .ok (.aload_n 0, 1) := by decide +kernel
theorem dL_law_336 : decode cL_law 336 = .ok (.iload_n 3, 1) := by decide +kernel
theorem dL_law_337 : decode cL_law 337 = .ok (.iconst 1, 1) := by decide +kernel
theorem dL_law_338 : decode cL_law 338 = .ok (.iadd, 1) := by decide +kernel
theorem dL_law_339 : decode cL_law 339 = .ok (.iaload, 1) := by decide +kernel
theorem dL_law_340 : decode cL_law 340 = .ok (.invokevirtual 32, 3) := by decide +kernel
theorem dL_law_343 : decode cL_law 343 = .ok (.aload_n 2, 1) := by decide +kernel
theorem dL_law_344 : decode cL_law 344 = .ok (.aload_n 0, 1) := by decide +kernel
theorem dL_law_345 : decode cL_law 345 = .ok (.iload_n 3, 1) := by decide +kernel
theorem dL_law_346 : decode cL_law 346 = .ok (.iconst 1, 1) := by decide +kernel
theorem dL_law_347 : decode cL_law 347 = .ok (.iadd, 1) := by decide +kernel
theorem dL_law_348 : decode cL_law 348 = .ok (.iaload, 1) := by decide +kernel
theorem dL_law_349 : decode cL_law 349 = .ok (.invokevirtual 35, 3) := by decide +kernel
theorem dL_law_352 : decode cL_law 352 = .ok (.if_icmp .eq 1003, 3) := by decide +kernel
theorem dL_law_355 : decode cL_law 355 = .ok (.iconst 0, 1) := by decide +kernel
theorem dL_law_356 : decode cL_law 356 = .ok (.ireturn, 1) := by decide +kernel
theorem dL_law_357 : decode cL_law 357 = .ok (.aload_n 1, 1) := by decide +kernel
theorem dL_law_358 : decode cL_law 358 = .ok (.aload_n 0, 1) := by decide +kernel
theorem dL_law_359 : decode cL_law 359 = .ok (.iload_n 3, 1) := by decide +kernel
theorem dL_law_360 : decode cL_law 360 = .ok (.iconst 1, 1) := by decide +kernel
theorem dL_law_361 : decode cL_law 361 = .ok (.iadd, 1) := by decide +kernel
theorem dL_law_362 : decode cL_law 362 = .ok (.iaload, 1) := by decide +kernel
theorem dL_law_363 : decode cL_law 363 = .ok (.aload_n 0, 1) := by decide +kernel
theorem dL_law_364 : decode cL_law 364 = .ok (.iload_n 3, 1) := by decide +kernel
theorem dL_law_365 : decode cL_law 365 = .ok (.iconst 2, 1) := by decide +kernel
theorem dL_law_366 : decode cL_law 366 = .ok (.iadd, 1) := by decide +kernel
theorem dL_law_367 : decode cL_law 367 = .ok (.iaload, 1) := by decide +kernel
theorem dL_law_368 : decode cL_law 368 = .ok (.invokevirtual 36, 3) := by decide +kernel
theorem dL_law_371 : decode cL_law 371 = .ok (.aload_n 2, 1) := by decide +kernel
theorem dL_law_372 : decode cL_law 372 = .ok (.aload_n 0, 1) := by decide +kernel
theorem dL_law_373 : decode cL_law 373 = .ok (.iload_n 3, 1) := by decide +kernel
theorem dL_law_374 : decode cL_law 374 = .ok (.iconst 1, 1) := by decide +kernel
theorem dL_law_375 : decode cL_law 375 = .ok (.iadd, 1) := by decide +kernel
theorem dL_law_376 : decode cL_law 376 = .ok (.iaload, 1) := by decide +kernel
theorem dL_law_377 : decode cL_law 377 = .ok (.aload_n 0, 1) := by decide +kernel
theorem dL_law_378 : decode cL_law 378 = .ok (.iload_n 3, 1) := by decide +kernel
theorem dL_law_379 : decode cL_law 379 = .ok (.iconst 2, 1) := by decide +kernel
theorem dL_law_380 : decode cL_law 380 = .ok (.iadd, 1) := by decide +kernel
theorem dL_law_381 : decode cL_law 381 = .ok (.iaload, 1) := by decide +kernel
theorem dL_law_382 : decode cL_law 382 = .ok (.invokevirtual 40, 3) := by decide +kernel
theorem dL_law_385 : decode cL_law 385 = .ok (.if_icmp .eq 970, 3) := by decide +kernel
theorem dL_law_388 : decode cL_law 388 = .ok (.iconst 0, 1) := by decide +kernel
theorem dL_law_389 : decode cL_law 389 = .ok (.ireturn, 1) := by decide +kernel
theorem dL_law_390 : decode cL_law 390 = .ok (.aload_n 1, 1) := by decide +kernel
theorem dL_law_391 : decode cL_law 391 = .ok (.aload_n 0, 1) := by decide +kernel
theorem dL_law_392 : decode cL_law 392 = .ok (.iload_n 3, 1) := by decide +kernel
theorem dL_law_393 : decode cL_law 393 = .ok (.iconst 1, 1) := by decide +kernel
theorem dL_law_394 : decode cL_law 394 = .ok (.iadd, 1) := by decide +kernel
theorem dL_law_395 : decode cL_law 395 = .ok (.iaload, 1) := by decide +kernel
theorem dL_law_396 : decode cL_law 396 = .ok (.aload_n 0, 1) := by decide +kernel
theorem dL_law_397 : decode cL_law 397 = .ok (.iload_n 3, 1) := by decide +kernel
theorem dL_law_398 : decode cL_law 398 = .ok (.iconst 2, 1) := by decide +kernel
theorem dL_law_399 : decode cL_law 399 = .ok (.iadd, 1) := by decide +kernel
theorem dL_law_400 : decode cL_law 400 = .ok (.iaload, 1) := by decide +kernel
theorem dL_law_401 : decode cL_law 401 = .ok (.invokevirtual 41, 3) := by decide +kernel
theorem dL_law_404 : decode cL_law 404 = .ok (.aload_n 2, 1) := by decide +kernel
theorem dL_law_405 : decode cL_law 405 = .ok (.aload_n 0, 1) := by decide +kernel
theorem dL_law_406 : decode cL_law 406 = .ok (.iload_n 3, 1) := by decide +kernel
theorem dL_law_407 : decode cL_law 407 = .ok (.iconst 1, 1) := by decide +kernel
theorem dL_law_408 : decode cL_law 408 = .ok (.iadd, 1) := by decide +kernel
theorem dL_law_409 : decode cL_law 409 = .ok (.iaload, 1) := by decide +kernel
theorem dL_law_410 : decode cL_law 410 = .ok (.aload_n 0, 1) := by decide +kernel
theorem dL_law_411 : decode cL_law 411 = .ok (.iload_n 3, 1) := by decide +kernel
theorem dL_law_412 : decode cL_law 412 = .ok (.iconst 2, 1) := by decide +kernel
theorem dL_law_413 : decode cL_law 413 = .ok (.iadd, 1) := by decide +kernel
theorem dL_law_414 : decode cL_law 414 = .ok (.iaload, 1) := by decide +kernel
theorem dL_law_415 : decode cL_law 415 = .ok (.invokevirtual 44, 3) := by decide +kernel
theorem dL_law_418 : decode cL_law 418 = .ok (.if_icmp .eq 937, 3) := by decide +kernel
theorem dL_law_421 : decode cL_law 421 = .ok (.iconst 0, 1) := by decide +kernel
theorem dL_law_422 : decode cL_law 422 = .ok (.ireturn, 1) := by decide +kernel
theorem dL_law_423 : decode cL_law 423 = .ok (.aload_n 1, 1) := by decide +kernel
theorem dL_law_424 : decode cL_law 424 = .ok (.aload_n 0, 1) := by decide +kernel
theorem dL_law_425 : decode cL_law 425 = .ok (.iload_n 3, 1) := by decide +kernel
theorem dL_law_426 : decode cL_law 426 = .ok (.iconst 1, 1) := by decide +kernel
theorem dL_law_427 : decode cL_law 427 = .ok (.iadd, 1) := by decide +kernel
theorem dL_law_428 : decode cL_law 428 = .ok (.iaload, 1) := by decide +kernel
theorem dL_law_429 : decode cL_law 429 = .ok (.invokevirtual 45, 3) := by decide +kernel
theorem dL_law_432 : decode cL_law 432 = .ok (.aload_n 2, 1) := by decide +kernel
theorem dL_law_433 : decode cL_law 433 = .ok (.aload_n 0, 1) := by decide +kernel
theorem dL_law_434 : decode cL_law 434 = .ok (.iload_n 3, 1) := by decide +kernel
theorem dL_law_435 : decode cL_law 435 = .ok (.iconst 1, 1) := by decide +kernel
theorem dL_law_436 : decode cL_law 436 = .ok (.iadd, 1) := by decide +kernel
theorem dL_law_437 : decode cL_law 437 = .ok (.iaload, 1) := by decide +kernel
theorem dL_law_438 : decode cL_law 438 = .ok (.invokevirtual 48, 3) := by decide +kernel
theorem dL_law_441 : decode cL_law 441 = .ok (.if_icmp .eq 914, 3) := by decide +kernel
theorem dL_law_444 : decode cL_law 444 = .ok (.iconst 0, 1) := by decide +kernel
theorem dL_law_445 : decode cL_law 445 = .ok (.ireturn, 1) := by decide +kernel
theorem dL_law_446 : decode cL_law 446 = .ok (.aload_n 1, 1) := by decide +kernel
theorem dL_law_447 : decode cL_law 447 = .ok (.aload_n 0, 1) := by decide +kernel
theorem dL_law_448 : decode cL_law 448 = .ok (.iload_n 3, 1) := by decide +kernel
theorem dL_law_449 : decode cL_law 449 = .ok (.iconst 1, 1) := by decide +kernel
theorem dL_law_450 : decode cL_law 450 = .ok (.iadd, 1) := by decide +kernel
theorem dL_law_451 : decode cL_law 451 = .ok (.iaload, 1) := by decide +kernel
theorem dL_law_452 : decode cL_law 452 = .ok (.invokevirtual 49, 3) := by decide +kernel
theorem dL_law_455 : decode cL_law 455 = .ok (.aload_n 2, 1) := by decide +kernel
theorem dL_law_456 : decode cL_law 456 = .ok (.aload_n 0, 1) := by decide +kernel
theorem dL_law_457 : decode cL_law 457 = .ok (.iload_n 3, 1) := by decide +kernel
theorem dL_law_458 : decode cL_law 458 = .ok (.iconst 1, 1) := by decide +kernel
theorem dL_law_459 : decode cL_law 459 = .ok (.iadd, 1) := by decide +kernel
theorem dL_law_460 : decode cL_law 460 = .ok (.iaload, 1) := by decide +kernel
theorem dL_law_461 : decode cL_law 461 = .ok (.invokevirtual 52, 3) := by decide +kernel
theorem dL_law_464 : decode cL_law 464 = .ok (.if_icmp .eq 891, 3) := by decide +kernel
theorem dL_law_467 : decode cL_law 467 = .ok (.iconst 0, 1) := by decide +kernel
theorem dL_law_468 : decode cL_law 468 = .ok (.ireturn, 1) := by decide +kernel
theorem dL_law_469 : decode cL_law 469 = .ok (.aload_n 1, 1) := by decide +kernel
theorem dL_law_470 : decode cL_law 470 = .ok (.aload_n 0, 1) := by decide +kernel
theorem dL_law_471 : decode cL_law 471 = .ok (.iload_n 3, 1) := by decide +kernel
theorem dL_law_472 : decode cL_law 472 = .ok (.iconst 1, 1) := by decide +kernel
theorem dL_law_473 : decode cL_law 473 = .ok (.iadd, 1) := by decide +kernel
theorem dL_law_474 : decode cL_law 474 = .ok (.iaload, 1) := by decide +kernel
theorem dL_law_475 : decode cL_law 475 = .ok (.aload_n 0, 1) := by decide +kernel
theorem dL_law_476 : decode cL_law 476 = .ok (.iload_n 3, 1) := by decide +kernel
theorem dL_law_477 : decode cL_law 477 = .ok (.iconst 2, 1) := by decide +kernel
theorem dL_law_478 : decode cL_law 478 = .ok (.iadd, 1) := by decide +kernel
theorem dL_law_479 : decode cL_law 479 = .ok (.iaload, 1) := by decide +kernel
theorem dL_law_480 : decode cL_law 480 = .ok (.invokevirtual 53, 3) := by decide +kernel
theorem dL_law_483 : decode cL_law 483 = .ok (.aload_n 2, 1) := by decide +kernel
theorem dL_law_484 : decode cL_law 484 = .ok (.aload_n 0, 1) := by decide +kernel
theorem dL_law_485 : decode cL_law 485 = .ok (.iload_n 3, 1) := by decide +kernel
theorem dL_law_486 : decode cL_law 486 = .ok (.iconst 1, 1) := by decide +kernel
theorem dL_law_487 : decode cL_law 487 = .ok (.iadd, 1) := by decide +kernel
theorem dL_law_488 : decode cL_law 488 = .ok (.iaload, 1) := by decide +kernel
theorem dL_law_489 : decode cL_law 489 = .ok (.aload_n 0, 1) := by decide +kernel
theorem dL_law_490 : decode cL_law 490 = .ok (.iload_n 3, 1) := by decide +kernel
theorem dL_law_491 : decode cL_law 491 = .ok (.iconst 2, 1) := by decide +kernel
theorem dL_law_492 : decode cL_law 492 = .ok (.iadd, 1) := by decide +kernel
theorem dL_law_493 : decode cL_law 493 = .ok (.iaload, 1) := by decide +kernel
theorem dL_law_494 : decode cL_law 494 = .ok (.invokevirtual 56, 3) := by decide +kernel
theorem dL_law_497 : decode cL_law 497 = .ok (.if_icmp .eq 858, 3) := by decide +kernel
theorem dL_law_500 : decode cL_law 500 = .ok (.iconst 0, 1) := by decide +kernel
theorem dL_law_501 : decode cL_law 501 = .ok (.ireturn, 1) := by decide +kernel
theorem dL_law_502 : decode cL_law 502 = .ok (.aload_n 1, 1) := by decide +kernel
theorem dL_law_503 : decode cL_law 503 = .ok (.aload_n 0, 1) := by decide +kernel
theorem dL_law_504 : decode cL_law 504 = .ok (.iload_n 3, 1) := by decide +kernel
theorem dL_law_505 : decode cL_law 505 = .ok (.iconst 1, 1) := by decide +kernel
theorem dL_law_506 : decode cL_law 506 = .ok (.iadd, 1) := by decide +kernel
theorem dL_law_507 : decode cL_law 507 = .ok (.iaload, 1) := by decide +kernel
theorem dL_law_508 : decode cL_law 508 = .ok (.aload_n 0, 1) := by decide +kernel
theorem dL_law_509 : decode cL_law 509 = .ok (.iload_n 3, 1) := by decide +kernel
theorem dL_law_510 : decode cL_law 510 = .ok (.iconst 2, 1) := by decide +kernel
theorem dL_law_511 : decode cL_law 511 = .ok (.iadd, 1) := by decide +kernel
theorem dL_law_512 : decode cL_law 512 = .ok (.iaload, 1) := by decide +kernel
theorem dL_law_513 : decode cL_law 513 = .ok (.invokevirtual 57, 3) := by decide +kernel
theorem dL_law_516 : decode cL_law 516 = .ok (.aload_n 2, 1) := by decide +kernel
theorem dL_law_517 : decode cL_law 517 = .ok (.aload_n 0, 1) := by decide +kernel
theorem dL_law_518 : decode cL_law 518 = .ok (.iload_n 3, 1) := by decide +kernel
theorem dL_law_519 : decode cL_law 519 = .ok (.iconst 1, 1) := by decide +kernel
theorem dL_law_520 : decode cL_law 520 = .ok (.iadd, 1) := by decide +kernel
theorem dL_law_521 : decode cL_law 521 = .ok (.iaload, 1) := by decide +kernel
theorem dL_law_522 : decode cL_law 522 = .ok (.aload_n 0, 1) := by decide +kernel
theorem dL_law_523 : decode cL_law 523 = .ok (.iload_n 3, 1) := by decide +kernel
theorem dL_law_524 : decode cL_law 524 = .ok (.iconst 2, 1) := by decide +kernel
theorem dL_law_525 : decode cL_law 525 = .ok (.iadd, 1) := by decide +kernel
theorem dL_law_526 : decode cL_law 526 = .ok (.iaload, 1) := by decide +kernel
theorem dL_law_527 : decode cL_law 527 = .ok (.invokevirtual 60, 3) := by decide +kernel
theorem dL_law_530 : decode cL_law 530 = .ok (.if_icmp .eq 825, 3) := by decide +kernel
theorem dL_law_533 : decode cL_law 533 = .ok (.iconst 0, 1) := by decide +kernel
theorem dL_law_534 : decode cL_law 534 = .ok (.ireturn, 1) := by decide +kernel
theorem dL_law_535 : decode cL_law 535 = .ok (.aload_n 1, 1) := by decide +kernel
theorem dL_law_536 : decode cL_law 536 = .ok (.aload_n 0, 1) := by decide +kernel
theorem dL_law_537 : decode cL_law 537 = .ok (.iload_n 3, 1) := by decide +kernel
theorem dL_law_538 : decode cL_law 538 = .ok (.iconst 1, 1) := by decide +kernel
theorem dL_law_539 : decode cL_law 539 = .ok (.iadd, 1) := by decide +kernel
theorem dL_law_540 : decode cL_law 540 = .ok (.iaload, 1) := by decide +kernel
theorem dL_law_541 : decode cL_law 541 = .ok (.invokevirtual 61, 3) := by decide +kernel
theorem dL_law_544 : decode cL_law 544 = .ok (.aload_n 2, 1) := by decide +kernel
theorem dL_law_545 : decode cL_law 545 = .ok (.aload_n 0, 1) := by decide +kernel
theorem dL_law_546 : decode cL_law 546 = .ok (.iload_n 3, 1) := by decide +kernel
theorem dL_law_547 : decode cL_law 547 = .ok (.iconst 1, 1) := by decide +kernel
theorem dL_law_548 : decode cL_law 548 = .ok (.iadd, 1) := by decide +kernel
theorem dL_law_549 : decode cL_law 549 = .ok (.iaload, 1) := by decide +kernel
theorem dL_law_550 : decode cL_law 550 = .ok (.invokevirtual 64, 3) := by decide +kernel
theorem dL_law_553 : decode cL_law 553 = .ok (.if_icmp .eq 802, 3) := by decide +kernel
theorem dL_law_556 : decode cL_law 556 = .ok (.iconst 0, 1) := by decide +kernel
theorem dL_law_557 : decode cL_law 557 = .ok (.ireturn, 1) := by decide +kernel
theorem dL_law_558 : decode cL_law 558 = .ok (.aload_n 1, 1) := by decide +kernel
theorem dL_law_559 : decode cL_law 559 = .ok (.aload_n 0, 1) := by decide +kernel
theorem dL_law_560 : decode cL_law 560 = .ok (.iload_n 3, 1) := by decide +kernel
theorem dL_law_561 : decode cL_law 561 = .ok (.iconst 1, 1) := by decide +kernel
theorem dL_law_562 : decode cL_law 562 = .ok (.iadd, 1) := by decide +kernel
theorem dL_law_563 : decode cL_law 563 = .ok (.iaload, 1) := by decide +kernel
theorem dL_law_564 : decode cL_law 564 = .ok (.aload_n 0, 1) := by decide +kernel
theorem dL_law_565 : decode cL_law 565 = .ok (.iload_n 3, 1) := by decide +kernel
theorem dL_law_566 : decode cL_law 566 = .ok (.iconst 2, 1) := by decide +kernel
theorem dL_law_567 : decode cL_law 567 = .ok (.iadd, 1) := by decide +kernel
theorem dL_law_568 : decode cL_law 568 = .ok (.iaload, 1) := by decide +kernel
theorem dL_law_569 : decode cL_law 569 = .ok (.invokevirtual 65, 3) := by decide +kernel
theorem dL_law_572 : decode cL_law 572 = .ok (.aload_n 2, 1) := by decide +kernel
theorem dL_law_573 : decode cL_law 573 = .ok (.aload_n 0, 1) := by decide +kernel
theorem dL_law_574 : decode cL_law 574 = .ok (.iload_n 3, 1) := by decide +kernel
theorem dL_law_575 : decode cL_law 575 = .ok (.iconst 1, 1) := by decide +kernel
theorem dL_law_576 : decode cL_law 576 = .ok (.iadd, 1) := by decide +kernel
theorem dL_law_577 : decode cL_law 577 = .ok (.iaload, 1) := by decide +kernel
theorem dL_law_578 : decode cL_law 578 = .ok (.aload_n 0, 1) := by decide +kernel
theorem dL_law_579 : decode cL_law 579 = .ok (.iload_n 3, 1) := by decide +kernel
theorem dL_law_580 : decode cL_law 580 = .ok (.iconst 2, 1) := by decide +kernel
theorem dL_law_581 : decode cL_law 581 = .ok (.iadd, 1) := by decide +kernel
theorem dL_law_582 : decode cL_law 582 = .ok (.iaload, 1) := by decide +kernel
theorem dL_law_583 : decode cL_law 583 = .ok (.invokevirtual 68, 3) := by decide +kernel
theorem dL_law_586 : decode cL_law 586 = .ok (.if_icmp .eq 769, 3) := by decide +kernel
theorem dL_law_589 : decode cL_law 589 = .ok (.iconst 0, 1) := by decide +kernel
theorem dL_law_590 : decode cL_law 590 = .ok (.ireturn, 1) := by decide +kernel
theorem dL_law_591 : decode cL_law 591 = .ok (.aload_n 1, 1) := by decide +kernel
theorem dL_law_592 : decode cL_law 592 = .ok (.aload_n 0, 1) := by decide +kernel
theorem dL_law_593 : decode cL_law 593 = .ok (.iload_n 3, 1) := by decide +kernel
theorem dL_law_594 : decode cL_law 594 = .ok (.iconst 1, 1) := by decide +kernel
theorem dL_law_595 : decode cL_law 595 = .ok (.iadd, 1) := by decide +kernel
theorem dL_law_596 : decode cL_law 596 = .ok (.iaload, 1) := by decide +kernel
theorem dL_law_597 : decode cL_law 597 = .ok (.aload_n 0, 1) := by decide +kernel
theorem dL_law_598 : decode cL_law 598 = .ok (.iload_n 3, 1) := by decide +kernel
theorem dL_law_599 : decode cL_law 599 = .ok (.iconst 2, 1) := by decide +kernel
theorem dL_law_600 : decode cL_law 600 = .ok (.iadd, 1) := by decide +kernel
theorem dL_law_601 : decode cL_law 601 = .ok (.iaload, 1) := by decide +kernel
theorem dL_law_602 : decode cL_law 602 = .ok (.invokevirtual 69, 3) := by decide +kernel
theorem dL_law_605 : decode cL_law 605 = .ok (.aload_n 2, 1) := by decide +kernel
theorem dL_law_606 : decode cL_law 606 = .ok (.aload_n 0, 1) := by decide +kernel
theorem dL_law_607 : decode cL_law 607 = .ok (.iload_n 3, 1) := by decide +kernel
theorem dL_law_608 : decode cL_law 608 = .ok (.iconst 1, 1) := by decide +kernel
theorem dL_law_609 : decode cL_law 609 = .ok (.iadd, 1) := by decide +kernel
theorem dL_law_610 : decode cL_law 610 = .ok (.iaload, 1) := by decide +kernel
theorem dL_law_611 : decode cL_law 611 = .ok (.aload_n 0, 1) := by decide +kernel
theorem dL_law_612 : decode cL_law 612 = .ok (.iload_n 3, 1) := by decide +kernel
theorem dL_law_613 : decode cL_law 613 = .ok (.iconst 2, 1) := by decide +kernel
theorem dL_law_614 : decode cL_law 614 = .ok (.iadd, 1) := by decide +kernel
theorem dL_law_615 : decode cL_law 615 = .ok (.iaload, 1) := by decide +kernel
theorem dL_law_616 : decode cL_law 616 = .ok (.invokevirtual 72, 3) := by decide +kernel
theorem dL_law_619 : decode cL_law 619 = .ok (.if_icmp .eq 736, 3) := by decide +kernel
theorem dL_law_622 : decode cL_law 622 = .ok (.iconst 0, 1) := by decide +kernel
theorem dL_law_623 : decode cL_law 623 = .ok (.ireturn, 1) := by decide +kernel
theorem dL_law_624 : decode cL_law 624 = .ok (.aload_n 1, 1) := by decide +kernel
theorem dL_law_625 : decode cL_law 625 = .ok (.aload_n 0, 1) := by decide +kernel
theorem dL_law_626 : decode cL_law 626 = .ok (.iload_n 3, 1) := by decide +kernel
theorem dL_law_627 : decode cL_law 627 = .ok (.iconst 1, 1) := by decide +kernel
theorem dL_law_628 : decode cL_law 628 = .ok (.iadd, 1) := by decide +kernel
theorem dL_law_629 : decode cL_law 629 = .ok (.iaload, 1) := by decide +kernel
theorem dL_law_630 : decode cL_law 630 = .ok (.aload_n 0, 1) := by decide +kernel
theorem dL_law_631 : decode cL_law 631 = .ok (.iload_n 3, 1) := by decide +kernel
theorem dL_law_632 : decode cL_law 632 = .ok (.iconst 2, 1) := by decide +kernel
theorem dL_law_633 : decode cL_law 633 = .ok (.iadd, 1) := by decide +kernel
theorem dL_law_634 : decode cL_law 634 = .ok (.iaload, 1) := by decide +kernel
theorem dL_law_635 : decode cL_law 635 = .ok (.invokevirtual 73, 3) := by decide +kernel
theorem dL_law_638 : decode cL_law 638 = .ok (.aload_n 2, 1) := by decide +kernel
theorem dL_law_639 : decode cL_law 639 = .ok (.aload_n 0, 1) := by decide +kernel
theorem dL_law_640 : decode cL_law 640 = .ok (.iload_n 3, 1) := by decide +kernel
theorem dL_law_641 : decode cL_law 641 = .ok (.iconst 1, 1) := by decide +kernel
theorem dL_law_642 : decode cL_law 642 = .ok (.iadd, 1) := by decide +kernel
theorem dL_law_643 : decode cL_law 643 = .ok (.iaload, 1) := by decide +kernel
theorem dL_law_644 : decode cL_law 644 = .ok (.aload_n 0, 1) := by decide +kernel
theorem dL_law_645 : decode cL_law 645 = .ok (.iload_n 3, 1) := by decide +kernel
theorem dL_law_646 : decode cL_law 646 = .ok (.iconst 2, 1) := by decide +kernel
theorem dL_law_647 : decode cL_law 647 = .ok (.iadd, 1) := by decide +kernel
theorem dL_law_648 : decode cL_law 648 = .ok (.iaload, 1) := by decide +kernel
theorem dL_law_649 : decode cL_law 649 = .ok (.invokevirtual 76, 3) := by decide +kernel
theorem dL_law_652 : decode cL_law 652 = .ok (.if_icmp .eq 703, 3) := by decide +kernel
theorem dL_law_655 : decode cL_law 655 = .ok (.iconst 0, 1) := by decide +kernel
theorem dL_law_656 : decode cL_law 656 = .ok (.ireturn, 1) := by decide +kernel
theorem dL_law_657 : decode cL_law 657 = .ok (.aload_n 1, 1) := by decide +kernel
theorem dL_law_658 : decode cL_law 658 = .ok (.aload_n 0, 1) := by decide +kernel
theorem dL_law_659 : decode cL_law 659 = .ok (.iload_n 3, 1) := by decide +kernel
theorem dL_law_660 : decode cL_law 660 = .ok (.iconst 1, 1) := by decide +kernel
theorem dL_law_661 : decode cL_law 661 = .ok (.iadd, 1) := by decide +kernel
theorem dL_law_662 : decode cL_law 662 = .ok (.iaload, 1) := by decide +kernel
theorem dL_law_663 : decode cL_law 663 = .ok (.aload_n 0, 1) := by decide +kernel
theorem dL_law_664 : decode cL_law 664 = .ok (.iload_n 3, 1) := by decide +kernel
theorem dL_law_665 : decode cL_law 665 = .ok (.iconst 2, 1) := by decide +kernel
theorem dL_law_666 : decode cL_law 666 = .ok (.iadd, 1) := by decide +kernel
theorem dL_law_667 : decode cL_law 667 = .ok (.iaload, 1) := by decide +kernel
theorem dL_law_668 : decode cL_law 668 = .ok (.invokevirtual 77, 3) := by decide +kernel
theorem dL_law_671 : decode cL_law 671 = .ok (.aload_n 2, 1) := by decide +kernel
theorem dL_law_672 : decode cL_law 672 = .ok (.aload_n 0, 1) := by decide +kernel
theorem dL_law_673 : decode cL_law 673 = .ok (.iload_n 3, 1) := by decide +kernel
theorem dL_law_674 : decode cL_law 674 = .ok (.iconst 1, 1) := by decide +kernel
theorem dL_law_675 : decode cL_law 675 = .ok (.iadd, 1) := by decide +kernel
theorem dL_law_676 : decode cL_law 676 = .ok (.iaload, 1) := by decide +kernel
theorem dL_law_677 : decode cL_law 677 = .ok (.aload_n 0, 1) := by decide +kernel
theorem dL_law_678 : decode cL_law 678 = .ok (.iload_n 3, 1) := by decide +kernel
theorem dL_law_679 : decode cL_law 679 = .ok (.iconst 2, 1) := by decide +kernel
theorem dL_law_680 : decode cL_law 680 = .ok (.iadd, 1) := by decide +kernel
theorem dL_law_681 : decode cL_law 681 = .ok (.iaload, 1) := by decide +kernel
theorem dL_law_682 : decode cL_law 682 = .ok (.invokevirtual 80, 3) := by decide +kernel
theorem dL_law_685 : decode cL_law 685 = .ok (.if_icmp .eq 670, 3) := by decide +kernel
theorem dL_law_688 : decode cL_law 688 = .ok (.iconst 0, 1) := by decide +kernel
theorem dL_law_689 : decode cL_law 689 = .ok (.ireturn, 1) := by decide +kernel
theorem dL_law_690 : decode cL_law 690 = .ok (.aload_n 1, 1) := by decide +kernel
theorem dL_law_691 : decode cL_law 691 = .ok (.aload_n 0, 1) := by decide +kernel
theorem dL_law_692 : decode cL_law 692 = .ok (.iload_n 3, 1) := by decide +kernel
theorem dL_law_693 : decode cL_law 693 = .ok (.iconst 1, 1) := by decide +kernel
theorem dL_law_694 : decode cL_law 694 = .ok (.iadd, 1) := by decide +kernel
theorem dL_law_695 : decode cL_law 695 = .ok (.iaload, 1) := by decide +kernel
theorem dL_law_696 : decode cL_law 696 = .ok (.invokevirtual 81, 3) := by decide +kernel
theorem dL_law_699 : decode cL_law 699 = .ok (.aload_n 2, 1) := by decide +kernel
theorem dL_law_700 : decode cL_law 700 = .ok (.aload_n 0, 1) := by decide +kernel
theorem dL_law_701 : decode cL_law 701 = .ok (.iload_n 3, 1) := by decide +kernel
theorem dL_law_702 : decode cL_law 702 = .ok (.iconst 1, 1) := by decide +kernel
theorem dL_law_703 : decode cL_law 703 = .ok (.iadd, 1) := by decide +kernel
theorem dL_law_704 : decode cL_law 704 = .ok (.iaload, 1) := by decide +kernel
theorem dL_law_705 : decode cL_law 705 = .ok (.invokevirtual 84, 3) := by decide +kernel
theorem dL_law_708 : decode cL_law 708 = .ok (.if_icmp .eq 647, 3) := by decide +kernel
theorem dL_law_711 : decode cL_law 711 = .ok (.iconst 0, 1) := by decide +kernel
theorem dL_law_712 : decode cL_law 712 = .ok (.ireturn, 1) := by decide +kernel
theorem dL_law_713 : decode cL_law 713 = .ok (.aload_n 1, 1) := by decide +kernel
theorem dL_law_714 : decode cL_law 714 = .ok (.aload_n 0, 1) := by decide +kernel
theorem dL_law_715 : decode cL_law 715 = .ok (.iload_n 3, 1) := by decide +kernel
theorem dL_law_716 : decode cL_law 716 = .ok (.iconst 1, 1) := by decide +kernel
theorem dL_law_717 : decode cL_law 717 = .ok (.iadd, 1) := by decide +kernel
theorem dL_law_718 : decode cL_law 718 = .ok (.iaload, 1) := by decide +kernel
theorem dL_law_719 : decode cL_law 719 = .ok (.invokevirtual 85, 3) := by decide +kernel
theorem dL_law_722 : decode cL_law 722 = .ok (.aload_n 2, 1) := by decide +kernel
theorem dL_law_723 : decode cL_law 723 = .ok (.aload_n 0, 1) := by decide +kernel
theorem dL_law_724 : decode cL_law 724 = .ok (.iload_n 3, 1) := by decide +kernel
theorem dL_law_725 : decode cL_law 725 = .ok (.iconst 1, 1) := by decide +kernel
theorem dL_law_726 : decode cL_law 726 = .ok (.iadd, 1) := by decide +kernel
theorem dL_law_727 : decode cL_law 727 = .ok (.iaload, 1) := by decide +kernel
theorem dL_law_728 : decode cL_law 728 = .ok (.invokevirtual 88, 3) := by decide +kernel
theorem dL_law_731 : decode cL_law 731 = .ok (.if_icmp .eq 624, 3) := by decide +kernel
theorem dL_law_734 : decode cL_law 734 = .ok (.iconst 0, 1) := by decide +kernel
theorem dL_law_735 : decode cL_law 735 = .ok (.ireturn, 1) := by decide +kernel
theorem dL_law_736 : decode cL_law 736 = .ok (.aload_n 1, 1) := by decide +kernel
theorem dL_law_737 : decode cL_law 737 = .ok (.aload_n 0, 1) := by decide +kernel
theorem dL_law_738 : decode cL_law 738 = .ok (.iload_n 3, 1) := by decide +kernel
theorem dL_law_739 : decode cL_law 739 = .ok (.iconst 1, 1) := by decide +kernel
theorem dL_law_740 : decode cL_law 740 = .ok (.iadd, 1) := by decide +kernel
theorem dL_law_741 : decode cL_law 741 = .ok (.iaload, 1) := by decide +kernel
theorem dL_law_742 : decode cL_law 742 = .ok (.invokevirtual 89, 3) := by decide +kernel
theorem dL_law_745 : decode cL_law 745 = .ok (.aload_n 2, 1) := by decide +kernel
theorem dL_law_746 : decode cL_law 746 = .ok (.aload_n 0, 1) := by decide +kernel
theorem dL_law_747 : decode cL_law 747 = .ok (.iload_n 3, 1) := by decide +kernel
theorem dL_law_748 : decode cL_law 748 = .ok (.iconst 1, 1) := by decide +kernel
theorem dL_law_749 : decode cL_law 749 = .ok (.iadd, 1) := by decide +kernel
theorem dL_law_750 : decode cL_law 750 = .ok (.iaload, 1) := by decide +kernel
theorem dL_law_751 : decode cL_law 751 = .ok (.invokevirtual 92, 3) := by decide +kernel
theorem dL_law_754 : decode cL_law 754 = .ok (.if_icmp .eq 601, 3) := by decide +kernel
theorem dL_law_757 : decode cL_law 757 = .ok (.iconst 0, 1) := by decide +kernel
theorem dL_law_758 : decode cL_law 758 = .ok (.ireturn, 1) := by decide +kernel
theorem dL_law_759 : decode cL_law 759 = .ok (.aload_n 1, 1) := by decide +kernel
theorem dL_law_760 : decode cL_law 760 = .ok (.aload_n 0, 1) := by decide +kernel
theorem dL_law_761 : decode cL_law 761 = .ok (.iload_n 3, 1) := by decide +kernel
theorem dL_law_762 : decode cL_law 762 = .ok (.iconst 1, 1) := by decide +kernel
theorem dL_law_763 : decode cL_law 763 = .ok (.iadd, 1) := by decide +kernel
theorem dL_law_764 : decode cL_law 764 = .ok (.iaload, 1) := by decide +kernel
theorem dL_law_765 : decode cL_law 765 = .ok (.aload_n 0, 1) := by decide +kernel
theorem dL_law_766 : decode cL_law 766 = .ok (.iload_n 3, 1) := by decide +kernel
theorem dL_law_767 : decode cL_law 767 = .ok (.iconst 2, 1) := by decide +kernel
theorem dL_law_768 : decode cL_law 768 = .ok (.iadd, 1) := by decide +kernel
theorem dL_law_769 : decode cL_law 769 = .ok (.iaload, 1) := by decide +kernel
theorem dL_law_770 : decode cL_law 770 = .ok (.invokevirtual 93, 3) := by decide +kernel
theorem dL_law_773 : decode cL_law 773 = .ok (.aload_n 2, 1) := by decide +kernel
theorem dL_law_774 : decode cL_law 774 = .ok (.aload_n 0, 1) := by decide +kernel
theorem dL_law_775 : decode cL_law 775 = .ok (.iload_n 3, 1) := by decide +kernel
theorem dL_law_776 : decode cL_law 776 = .ok (.iconst 1, 1) := by decide +kernel
theorem dL_law_777 : decode cL_law 777 = .ok (.iadd, 1) := by decide +kernel
theorem dL_law_778 : decode cL_law 778 = .ok (.iaload, 1) := by decide +kernel
theorem dL_law_779 : decode cL_law 779 = .ok (.aload_n 0, 1) := by decide +kernel
theorem dL_law_780 : decode cL_law 780 = .ok (.iload_n 3, 1) := by decide +kernel
theorem dL_law_781 : decode cL_law 781 = .ok (.iconst 2, 1) := by decide +kernel
theorem dL_law_782 : decode cL_law 782 = .ok (.iadd, 1) := by decide +kernel
theorem dL_law_783 : decode cL_law 783 = .ok (.iaload, 1) := by decide +kernel
theorem dL_law_784 : decode cL_law 784 = .ok (.invokevirtual 96, 3) := by decide +kernel
theorem dL_law_787 : decode cL_law 787 = .ok (.if_icmp .eq 568, 3) := by decide +kernel
theorem dL_law_790 : decode cL_law 790 = .ok (.iconst 0, 1) := by decide +kernel
theorem dL_law_791 : decode cL_law 791 = .ok (.ireturn, 1) := by decide +kernel
theorem dL_law_792 : decode cL_law 792 = .ok (.aload_n 1, 1) := by decide +kernel
theorem dL_law_793 : decode cL_law 793 = .ok (.aload_n 0, 1) := by decide +kernel
theorem dL_law_794 : decode cL_law 794 = .ok (.iload_n 3, 1) := by decide +kernel
theorem dL_law_795 : decode cL_law 795 = .ok (.iconst 1, 1) := by decide +kernel
theorem dL_law_796 : decode cL_law 796 = .ok (.iadd, 1) := by decide +kernel
theorem dL_law_797 : decode cL_law 797 = .ok (.iaload, 1) := by decide +kernel
theorem dL_law_798 : decode cL_law 798 = .ok (.invokevirtual 97, 3) := by decide +kernel
theorem dL_law_801 : decode cL_law 801 = .ok (.aload_n 2, 1) := by decide +kernel
theorem dL_law_802 : decode cL_law 802 = .ok (.aload_n 0, 1) := by decide +kernel
theorem dL_law_803 : decode cL_law 803 = .ok (.iload_n 3, 1) := by decide +kernel
theorem dL_law_804 : decode cL_law 804 = .ok (.iconst 1, 1) := by decide +kernel
theorem dL_law_805 : decode cL_law 805 = .ok (.iadd, 1) := by decide +kernel
theorem dL_law_806 : decode cL_law 806 = .ok (.iaload, 1) := by decide +kernel
theorem dL_law_807 : decode cL_law 807 = .ok (.invokevirtual 100, 3) := by decide +kernel
theorem dL_law_810 : decode cL_law 810 = .ok (.if_icmp .eq 545, 3) := by decide +kernel
theorem dL_law_813 : decode cL_law 813 = .ok (.iconst 0, 1) := by decide +kernel
theorem dL_law_814 : decode cL_law 814 = .ok (.ireturn, 1) := by decide +kernel
theorem dL_law_815 : decode cL_law 815 = .ok (.aload_n 1, 1) := by decide +kernel
theorem dL_law_816 : decode cL_law 816 = .ok (.invokevirtual 101, 3) := by decide +kernel
theorem dL_law_819 : decode cL_law 819 = .ok (.aload_n 2, 1) := by decide +kernel
theorem dL_law_820 : decode cL_law 820 = .ok (.invokevirtual 104, 3) := by decide +kernel
theorem dL_law_823 : decode cL_law 823 = .ok (.if_icmp .eq 532, 3) := by decide +kernel
theorem dL_law_826 : decode cL_law 826 = .ok (.iconst 0, 1) := by decide +kernel
theorem dL_law_827 : decode cL_law 827 = .ok (.ireturn, 1) := by decide +kernel
theorem dL_law_828 : decode cL_law 828 = .ok (.aload_n 1, 1) := by decide +kernel
theorem dL_law_829 : decode cL_law 829 = .ok (.aload_n 0, 1) := by decide +kernel
theorem dL_law_830 : decode cL_law 830 = .ok (.iload_n 3, 1) := by decide +kernel
theorem dL_law_831 : decode cL_law 831 = .ok (.iconst 1, 1) := by decide +kernel
theorem dL_law_832 : decode cL_law 832 = .ok (.iadd, 1) := by decide +kernel
theorem dL_law_833 : decode cL_law 833 = .ok (.iaload, 1) := by decide +kernel
theorem dL_law_834 : decode cL_law 834 = .ok (.aload_n 0, 1) := by decide +kernel
theorem dL_law_835 : decode cL_law 835 = .ok (.iload_n 3, 1) := by decide +kernel
theorem dL_law_836 : decode cL_law 836 = .ok (.iconst 2, 1) := by decide +kernel
theorem dL_law_837 : decode cL_law 837 = .ok (.iadd, 1) := by decide +kernel
theorem dL_law_838 : decode cL_law 838 = .ok (.iaload, 1) := by decide +kernel
theorem dL_law_839 : decode cL_law 839 = .ok (.invokevirtual 105, 3) := by decide +kernel
theorem dL_law_842 : decode cL_law 842 = .ok (.aload_n 2, 1) := by decide +kernel
theorem dL_law_843 : decode cL_law 843 = .ok (.aload_n 0, 1) := by decide +kernel
theorem dL_law_844 : decode cL_law 844 = .ok (.iload_n 3, 1) := by decide +kernel
theorem dL_law_845 : decode cL_law 845 = .ok (.iconst 1, 1) := by decide +kernel
theorem dL_law_846 : decode cL_law 846 = .ok (.iadd, 1) := by decide +kernel
theorem dL_law_847 : decode cL_law 847 = .ok (.iaload, 1) := by decide +kernel
theorem dL_law_848 : decode cL_law 848 = .ok (.aload_n 0, 1) := by decide +kernel
theorem dL_law_849 : decode cL_law 849 = .ok (.iload_n 3, 1) := by decide +kernel
theorem dL_law_850 : decode cL_law 850 = .ok (.iconst 2, 1) := by decide +kernel
theorem dL_law_851 : decode cL_law 851 = .ok (.iadd, 1) := by decide +kernel
theorem dL_law_852 : decode cL_law 852 = .ok (.iaload, 1) := by decide +kernel
theorem dL_law_853 : decode cL_law 853 = .ok (.invokevirtual 108, 3) := by decide +kernel
theorem dL_law_856 : decode cL_law 856 = .ok (.if_icmp .eq 499, 3) := by decide +kernel
theorem dL_law_859 : decode cL_law 859 = .ok (.iconst 0, 1) := by decide +kernel
theorem dL_law_860 : decode cL_law 860 = .ok (.ireturn, 1) := by decide +kernel
theorem dL_law_861 : decode cL_law 861 = .ok (.aload_n 1, 1) := by decide +kernel
theorem dL_law_862 : decode cL_law 862 = .ok (.invokevirtual 109, 3) := by decide +kernel
theorem dL_law_865 : decode cL_law 865 = .ok (.aload_n 2, 1) := by decide +kernel
theorem dL_law_866 : decode cL_law 866 = .ok (.invokevirtual 112, 3) := by decide +kernel
theorem dL_law_869 : decode cL_law 869 = .ok (.if_icmp .eq 486, 3) := by decide +kernel
theorem dL_law_872 : decode cL_law 872 = .ok (.iconst 0, 1) := by decide +kernel
theorem dL_law_873 : decode cL_law 873 = .ok (.ireturn, 1) := by decide +kernel
theorem dL_law_874 : decode cL_law 874 = .ok (.aload_n 1, 1) := by decide +kernel
theorem dL_law_875 : decode cL_law 875 = .ok (.aload_n 0, 1) := by decide +kernel
theorem dL_law_876 : decode cL_law 876 = .ok (.iload_n 3, 1) := by decide +kernel
theorem dL_law_877 : decode cL_law 877 = .ok (.iconst 1, 1) := by decide +kernel
theorem dL_law_878 : decode cL_law 878 = .ok (.iadd, 1) := by decide +kernel
theorem dL_law_879 : decode cL_law 879 = .ok (.iaload, 1) := by decide +kernel
theorem dL_law_880 : decode cL_law 880 = .ok (.invokevirtual 113, 3) := by decide +kernel
theorem dL_law_883 : decode cL_law 883 = .ok (.aload_n 2, 1) := by decide +kernel
theorem dL_law_884 : decode cL_law 884 = .ok (.aload_n 0, 1) := by decide +kernel
theorem dL_law_885 : decode cL_law 885 = .ok (.iload_n 3, 1) := by decide +kernel
theorem dL_law_886 : decode cL_law 886 = .ok (.iconst 1, 1) := by decide +kernel
theorem dL_law_887 : decode cL_law 887 = .ok (.iadd, 1) := by decide +kernel
theorem dL_law_888 : decode cL_law 888 = .ok (.iaload, 1) := by decide +kernel
theorem dL_law_889 : decode cL_law 889 = .ok (.invokevirtual 116, 3) := by decide +kernel
theorem dL_law_892 : decode cL_law 892 = .ok (.if_icmp .eq 463, 3) := by decide +kernel
theorem dL_law_895 : decode cL_law 895 = .ok (.iconst 0, 1) := by decide +kernel
theorem dL_law_896 : decode cL_law 896 = .ok (.ireturn, 1) := by decide +kernel
theorem dL_law_897 : decode cL_law 897 = .ok (.aload_n 1, 1) := by decide +kernel
theorem dL_law_898 : decode cL_law 898 = .ok (.aload_n 0, 1) := by decide +kernel
theorem dL_law_899 : decode cL_law 899 = .ok (.iload_n 3, 1) := by decide +kernel
theorem dL_law_900 : decode cL_law 900 = .ok (.iconst 1, 1) := by decide +kernel
theorem dL_law_901 : decode cL_law 901 = .ok (.iadd, 1) := by decide +kernel
theorem dL_law_902 : decode cL_law 902 = .ok (.iaload, 1) := by decide +kernel
theorem dL_law_903 : decode cL_law 903 = .ok (.invokevirtual 117, 3) := by decide +kernel
theorem dL_law_906 : decode cL_law 906 = .ok (.aload_n 2, 1) := by decide +kernel
theorem dL_law_907 : decode cL_law 907 = .ok (.aload_n 0, 1) := by decide +kernel
theorem dL_law_908 : decode cL_law 908 = .ok (.iload_n 3, 1) := by decide +kernel
theorem dL_law_909 : decode cL_law 909 = .ok (.iconst 1, 1) := by decide +kernel
theorem dL_law_910 : decode cL_law 910 = .ok (.iadd, 1) := by decide +kernel
theorem dL_law_911 : decode cL_law 911 = .ok (.iaload, 1) := by decide +kernel
theorem dL_law_912 : decode cL_law 912 = .ok (.invokevirtual 120, 3) := by decide +kernel
theorem dL_law_915 : decode cL_law 915 = .ok (.if_icmp .eq 440, 3) := by decide +kernel
theorem dL_law_918 : decode cL_law 918 = .ok (.iconst 0, 1) := by decide +kernel
theorem dL_law_919 : decode cL_law 919 = .ok (.ireturn, 1) := by decide +kernel
theorem dL_law_920 : decode cL_law 920 = .ok (.aload_n 1, 1) := by decide +kernel
theorem dL_law_921 : decode cL_law 921 = .ok (.aload_n 0, 1) := by decide +kernel
theorem dL_law_922 : decode cL_law 922 = .ok (.iload_n 3, 1) := by decide +kernel
theorem dL_law_923 : decode cL_law 923 = .ok (.iconst 1, 1) := by decide +kernel
theorem dL_law_924 : decode cL_law 924 = .ok (.iadd, 1) := by decide +kernel
theorem dL_law_925 : decode cL_law 925 = .ok (.iaload, 1) := by decide +kernel
theorem dL_law_926 : decode cL_law 926 = .ok (.aload_n 0, 1) := by decide +kernel
theorem dL_law_927 : decode cL_law 927 = .ok (.iload_n 3, 1) := by decide +kernel
theorem dL_law_928 : decode cL_law 928 = .ok (.iconst 2, 1) := by decide +kernel
theorem dL_law_929 : decode cL_law 929 = .ok (.iadd, 1) := by decide +kernel
theorem dL_law_930 : decode cL_law 930 = .ok (.iaload, 1) := by decide +kernel
theorem dL_law_931 : decode cL_law 931 = .ok (.invokevirtual 121, 3) := by decide +kernel
theorem dL_law_934 : decode cL_law 934 = .ok (.aload_n 2, 1) := by decide +kernel
theorem dL_law_935 : decode cL_law 935 = .ok (.aload_n 0, 1) := by decide +kernel
theorem dL_law_936 : decode cL_law 936 = .ok (.iload_n 3, 1) := by decide +kernel
theorem dL_law_937 : decode cL_law 937 = .ok (.iconst 1, 1) := by decide +kernel
theorem dL_law_938 : decode cL_law 938 = .ok (.iadd, 1) := by decide +kernel
theorem dL_law_939 : decode cL_law 939 = .ok (.iaload, 1) := by decide +kernel
theorem dL_law_940 : decode cL_law 940 = .ok (.aload_n 0, 1) := by decide +kernel
theorem dL_law_941 : decode cL_law 941 = .ok (.iload_n 3, 1) := by decide +kernel
theorem dL_law_942 : decode cL_law 942 = .ok (.iconst 2, 1) := by decide +kernel
theorem dL_law_943 : decode cL_law 943 = .ok (.iadd, 1) := by decide +kernel
theorem dL_law_944 : decode cL_law 944 = .ok (.iaload, 1) := by decide +kernel
theorem dL_law_945 : decode cL_law 945 = .ok (.invokevirtual 124, 3) := by decide +kernel
theorem dL_law_948 : decode cL_law 948 = .ok (.if_icmp .eq 407, 3) := by decide +kernel
theorem dL_law_951 : decode cL_law 951 = .ok (.iconst 0, 1) := by decide +kernel
theorem dL_law_952 : decode cL_law 952 = .ok (.ireturn, 1) := by decide +kernel
theorem dL_law_953 : decode cL_law 953 = .ok (.aload_n 1, 1) := by decide +kernel
theorem dL_law_954 : decode cL_law 954 = .ok (.aload_n 0, 1) := by decide +kernel
theorem dL_law_955 : decode cL_law 955 = .ok (.iload_n 3, 1) := by decide +kernel
theorem dL_law_956 : decode cL_law 956 = .ok (.iconst 1, 1) := by decide +kernel
theorem dL_law_957 : decode cL_law 957 = .ok (.iadd, 1) := by decide +kernel
theorem dL_law_958 : decode cL_law 958 = .ok (.iaload, 1) := by decide +kernel
theorem dL_law_959 : decode cL_law 959 = .ok (.aload_n 0, 1) := by decide +kernel
theorem dL_law_960 : decode cL_law 960 = .ok (.iload_n 3, 1) := by decide +kernel
theorem dL_law_961 : decode cL_law 961 = .ok (.iconst 2, 1) := by decide +kernel
theorem dL_law_962 : decode cL_law 962 = .ok (.iadd, 1) := by decide +kernel
theorem dL_law_963 : decode cL_law 963 = .ok (.iaload, 1) := by decide +kernel
theorem dL_law_964 : decode cL_law 964 = .ok (.invokevirtual 125, 3) := by decide +kernel
theorem dL_law_967 : decode cL_law 967 = .ok (.aload_n 2, 1) := by decide +kernel
theorem dL_law_968 : decode cL_law 968 = .ok (.aload_n 0, 1) := by decide +kernel
theorem dL_law_969 : decode cL_law 969 = .ok (.iload_n 3, 1) := by decide +kernel
theorem dL_law_970 : decode cL_law 970 = .ok (.iconst 1, 1) := by decide +kernel
theorem dL_law_971 : decode cL_law 971 = .ok (.iadd, 1) := by decide +kernel
theorem dL_law_972 : decode cL_law 972 = .ok (.iaload, 1) := by decide +kernel
theorem dL_law_973 : decode cL_law 973 = .ok (.aload_n 0, 1) := by decide +kernel
theorem dL_law_974 : decode cL_law 974 = .ok (.iload_n 3, 1) := by decide +kernel
theorem dL_law_975 : decode cL_law 975 = .ok (.iconst 2, 1) := by decide +kernel
theorem dL_law_976 : decode cL_law 976 = .ok (.iadd, 1) := by decide +kernel
theorem dL_law_977 : decode cL_law 977 = .ok (.iaload, 1) := by decide +kernel
theorem dL_law_978 : decode cL_law 978 = .ok (.invokevirtual 128, 3) := by decide +kernel
theorem dL_law_981 : decode cL_law 981 = .ok (.if_icmp .eq 374, 3) := by decide +kernel
theorem dL_law_984 : decode cL_law 984 = .ok (.iconst 0, 1) := by decide +kernel
theorem dL_law_985 : decode cL_law 985 = .ok (.ireturn, 1) := by decide +kernel
theorem dL_law_986 : decode cL_law 986 = .ok (.aload_n 1, 1) := by decide +kernel
theorem dL_law_987 : decode cL_law 987 = .ok (.aload_n 0, 1) := by decide +kernel
theorem dL_law_988 : decode cL_law 988 = .ok (.iload_n 3, 1) := by decide +kernel
theorem dL_law_989 : decode cL_law 989 = .ok (.iconst 1, 1) := by decide +kernel
theorem dL_law_990 : decode cL_law 990 = .ok (.iadd, 1) := by decide +kernel
theorem dL_law_991 : decode cL_law 991 = .ok (.iaload, 1) := by decide +kernel
theorem dL_law_992 : decode cL_law 992 = .ok (.aload_n 0, 1) := by decide +kernel
theorem dL_law_993 : decode cL_law 993 = .ok (.iload_n 3, 1) := by decide +kernel
theorem dL_law_994 : decode cL_law 994 = .ok (.iconst 2, 1) := by decide +kernel
theorem dL_law_995 : decode cL_law 995 = .ok (.iadd, 1) := by decide +kernel
theorem dL_law_996 : decode cL_law 996 = .ok (.iaload, 1) := by decide +kernel
theorem dL_law_997 : decode cL_law 997 = .ok (.invokevirtual 129, 3) := by decide +kernel
theorem dL_law_1000 : decode cL_law 1000 = .ok (.aload_n 2, 1) := by decide +kernel
theorem dL_law_1001 : decode cL_law 1001 = .ok (.aload_n 0, 1) := by decide +kernel
theorem dL_law_1002 : decode cL_law 1002 = .ok (.iload_n 3, 1) := by decide +kernel
theorem dL_law_1003 : decode cL_law 1003 = .ok (.iconst 1, 1) := by decide +kernel
theorem dL_law_1004 : decode cL_law 1004 = .ok (.iadd, 1) := by decide +kernel
theorem dL_law_1005 : decode cL_law 1005 = .ok (.iaload, 1) := by decide +kernel
theorem dL_law_1006 : decode cL_law 1006 = .ok (.aload_n 0, 1) := by decide +kernel
theorem dL_law_1007 : decode cL_law 1007 = .ok (.iload_n 3, 1) := by decide +kernel
theorem dL_law_1008 : decode cL_law 1008 = .ok (.iconst 2, 1) := by decide +kernel
theorem dL_law_1009 : decode cL_law 1009 = .ok (.iadd, 1) := by decide +kernel
theorem dL_law_1010 : decode cL_law 1010 = .ok (.iaload, 1) := by decide +kernel
theorem dL_law_1011 : decode cL_law 1011 = .ok (.invokevirtual 132, 3) := by decide +kernel
theorem dL_law_1014 : decode cL_law 1014 = .ok (.if_icmp .eq 341, 3) := by decide +kernel
theorem dL_law_1017 : decode cL_law 1017 = .ok (.iconst 0, 1) := by decide +kernel
theorem dL_law_1018 : decode cL_law 1018 = .ok (.ireturn, 1) := by decide +kernel
theorem dL_law_1019 : decode cL_law 1019 = .ok (.aload_n 1, 1) := by decide +kernel
theorem dL_law_1020 : decode cL_law 1020 = .ok (.aload_n 0, 1) := by decide +kernel
theorem dL_law_1021 : decode cL_law 1021 = .ok (.iload_n 3, 1) := by decide +kernel
theorem dL_law_1022 : decode cL_law 1022 = .ok (.iconst 1, 1) := by decide +kernel
theorem dL_law_1023 : decode cL_law 1023 = .ok (.iadd, 1) := by decide +kernel
theorem dL_law_1024 : decode cL_law 1024 = .ok (.iaload, 1) := by decide +kernel
theorem dL_law_1025 : decode cL_law 1025 = .ok (.invokevirtual 133, 3) := by decide +kernel
theorem dL_law_1028 : decode cL_law 1028 = .ok (.aload_n 2, 1) := by decide +kernel
theorem dL_law_1029 : decode cL_law 1029 = .ok (.aload_n 0, 1) := by decide +kernel
theorem dL_law_1030 : decode cL_law 1030 = .ok (.iload_n 3, 1) := by decide +kernel
theorem dL_law_1031 : decode cL_law 1031 = .ok (.iconst 1, 1) := by decide +kernel
theorem dL_law_1032 : decode cL_law 1032 = .ok (.iadd, 1) := by decide +kernel
theorem dL_law_1033 : decode cL_law 1033 = .ok (.iaload, 1) := by decide +kernel
theorem dL_law_1034 : decode cL_law 1034 = .ok (.invokevirtual 136, 3) := by decide +kernel
theorem dL_law_1037 : decode cL_law 1037 = .ok (.if_icmp .eq 318, 3) := by decide +kernel
theorem dL_law_1040 : decode cL_law 1040 = .ok (.iconst 0, 1) := by decide +kernel
theorem dL_law_1041 : decode cL_law 1041 = .ok (.ireturn, 1) := by decide +kernel
theorem dL_law_1042 : decode cL_law 1042 = .ok (.aload_n 1, 1) := by decide +kernel
theorem dL_law_1043 : decode cL_law 1043 = .ok (.aload_n 0, 1) := by decide +kernel
theorem dL_law_1044 : decode cL_law 1044 = .ok (.iload_n 3, 1) := by decide +kernel
theorem dL_law_1045 : decode cL_law 1045 = .ok (.iconst 1, 1) := by decide +kernel
theorem dL_law_1046 : decode cL_law 1046 = .ok (.iadd, 1) := by decide +kernel
theorem dL_law_1047 : decode cL_law 1047 = .ok (.iaload, 1) := by decide +kernel
theorem dL_law_1048 : decode cL_law 1048 = .ok (.aload_n 0, 1) := by decide +kernel
theorem dL_law_1049 : decode cL_law 1049 = .ok (.iload_n 3, 1) := by decide +kernel
theorem dL_law_1050 : decode cL_law 1050 = .ok (.iconst 2, 1) := by decide +kernel
theorem dL_law_1051 : decode cL_law 1051 = .ok (.iadd, 1) := by decide +kernel
theorem dL_law_1052 : decode cL_law 1052 = .ok (.iaload, 1) := by decide +kernel
theorem dL_law_1053 : decode cL_law 1053 = .ok (.invokevirtual 137, 3) := by decide +kernel
theorem dL_law_1056 : decode cL_law 1056 = .ok (.aload_n 2, 1) := by decide +kernel
theorem dL_law_1057 : decode cL_law 1057 = .ok (.aload_n 0, 1) := by decide +kernel
theorem dL_law_1058 : decode cL_law 1058 = .ok (.iload_n 3, 1) := by decide +kernel
theorem dL_law_1059 : decode cL_law 1059 = .ok (.iconst 1, 1) := by decide +kernel
theorem dL_law_1060 : decode cL_law 1060 = .ok (.iadd, 1) := by decide +kernel
theorem dL_law_1061 : decode cL_law 1061 = .ok (.iaload, 1) := by decide +kernel
theorem dL_law_1062 : decode cL_law 1062 = .ok (.aload_n 0, 1) := by decide +kernel
theorem dL_law_1063 : decode cL_law 1063 = .ok (.iload_n 3, 1) := by decide +kernel
theorem dL_law_1064 : decode cL_law 1064 = .ok (.iconst 2, 1) := by decide +kernel
theorem dL_law_1065 : decode cL_law 1065 = .ok (.iadd, 1) := by decide +kernel
theorem dL_law_1066 : decode cL_law 1066 = .ok (.iaload, 1) := by decide +kernel
theorem dL_law_1067 : decode cL_law 1067 = .ok (.invokevirtual 140, 3) := by decide +kernel
theorem dL_law_1070 : decode cL_law 1070 = .ok (.if_icmp .eq 285, 3) := by decide +kernel
theorem dL_law_1073 : decode cL_law 1073 = .ok (.iconst 0, 1) := by decide +kernel
theorem dL_law_1074 : decode cL_law 1074 = .ok (.ireturn, 1) := by decide +kernel
theorem dL_law_1075 : decode cL_law 1075 = .ok (.aload_n 1, 1) := by decide +kernel
theorem dL_law_1076 : decode cL_law 1076 = .ok (.aload_n 0, 1) := by decide +kernel
theorem dL_law_1077 : decode cL_law 1077 = .ok (.iload_n 3, 1) := by decide +kernel
theorem dL_law_1078 : decode cL_law 1078 = .ok (.iconst 1, 1) := by decide +kernel
theorem dL_law_1079 : decode cL_law 1079 = .ok (.iadd, 1) := by decide +kernel
theorem dL_law_1080 : decode cL_law 1080 = .ok (.iaload, 1) := by decide +kernel
theorem dL_law_1081 : decode cL_law 1081 = .ok (.aload_n 0, 1) := by decide +kernel
theorem dL_law_1082 : decode cL_law 1082 = .ok (.iload_n 3, 1) := by decide +kernel
theorem dL_law_1083 : decode cL_law 1083 = .ok (.iconst 2, 1) := by decide +kernel
theorem dL_law_1084 : decode cL_law 1084 = .ok (.iadd, 1) := by decide +kernel
theorem dL_law_1085 : decode cL_law 1085 = .ok (.iaload, 1) := by decide +kernel
theorem dL_law_1086 : decode cL_law 1086 = .ok (.invokevirtual 141, 3) := by decide +kernel
theorem dL_law_1089 : decode cL_law 1089 = .ok (.aload_n 2, 1) := by decide +kernel
theorem dL_law_1090 : decode cL_law 1090 = .ok (.aload_n 0, 1) := by decide +kernel
theorem dL_law_1091 : decode cL_law 1091 = .ok (.iload_n 3, 1) := by decide +kernel
theorem dL_law_1092 : decode cL_law 1092 = .ok (.iconst 1, 1) := by decide +kernel
theorem dL_law_1093 : decode cL_law 1093 = .ok (.iadd, 1) := by decide +kernel
theorem dL_law_1094 : decode cL_law 1094 = .ok (.iaload, 1) := by decide +kernel
theorem dL_law_1095 : decode cL_law 1095 = .ok (.aload_n 0, 1) := by decide +kernel
theorem dL_law_1096 : decode cL_law 1096 = .ok (.iload_n 3, 1) := by decide +kernel
theorem dL_law_1097 : decode cL_law 1097 = .ok (.iconst 2, 1) := by decide +kernel
theorem dL_law_1098 : decode cL_law 1098 = .ok (.iadd, 1) := by decide +kernel
theorem dL_law_1099 : decode cL_law 1099 = .ok (.iaload, 1) := by decide +kernel
theorem dL_law_1100 : decode cL_law 1100 = .ok (.invokevirtual 144, 3) := by decide +kernel
theorem dL_law_1103 : decode cL_law 1103 = .ok (.if_icmp .eq 252, 3) := by decide +kernel
theorem dL_law_1106 : decode cL_law 1106 = .ok (.iconst 0, 1) := by decide +kernel
theorem dL_law_1107 : decode cL_law 1107 = .ok (.ireturn, 1) := by decide +kernel
theorem dL_law_1108 : decode cL_law 1108 = .ok (.aload_n 1, 1) := by decide +kernel
theorem dL_law_1109 : decode cL_law 1109 = .ok (.aload_n 0, 1) := by decide +kernel
theorem dL_law_1110 : decode cL_law 1110 = .ok (.iload_n 3, 1) := by decide +kernel
theorem dL_law_1111 : decode cL_law 1111 = .ok (.iconst 1, 1) := by decide +kernel
theorem dL_law_1112 : decode cL_law 1112 = .ok (.iadd, 1) := by decide +kernel
theorem dL_law_1113 : decode cL_law 1113 = .ok (.iaload, 1) := by decide +kernel
theorem dL_law_1114 : decode cL_law 1114 = .ok (.aload_n 0, 1) := by decide +kernel
theorem dL_law_1115 : decode cL_law 1115 = .ok (.iload_n 3, 1) := by decide +kernel
theorem dL_law_1116 : decode cL_law 1116 = .ok (.iconst 2, 1) := by decide +kernel
theorem dL_law_1117 : decode cL_law 1117 = .ok (.iadd, 1) := by decide +kernel
theorem dL_law_1118 : decode cL_law 1118 = .ok (.iaload, 1) := by decide +kernel
theorem dL_law_1119 : decode cL_law 1119 = .ok (.invokevirtual 145, 3) := by decide +kernel
theorem dL_law_1122 : decode cL_law 1122 = .ok (.aload_n 2, 1) := by decide +kernel
theorem dL_law_1123 : decode cL_law 1123 = .ok (.aload_n 0, 1) := by decide +kernel
theorem dL_law_1124 : decode cL_law 1124 = .ok (.iload_n 3, 1) := by decide +kernel
theorem dL_law_1125 : decode cL_law 1125 = .ok (.iconst 1, 1) := by decide +kernel
theorem dL_law_1126 : decode cL_law 1126 = .ok (.iadd, 1) := by decide +kernel
theorem dL_law_1127 : decode cL_law 1127 = .ok (.iaload, 1) := by decide +kernel
theorem dL_law_1128 : decode cL_law 1128 = .ok (.aload_n 0, 1) := by decide +kernel
theorem dL_law_1129 : decode cL_law 1129 = .ok (.iload_n 3, 1) := by decide +kernel
theorem dL_law_1130 : decode cL_law 1130 = .ok (.iconst 2, 1) := by decide +kernel
theorem dL_law_1131 : decode cL_law 1131 = .ok (.iadd, 1) := by decide +kernel
theorem dL_law_1132 : decode cL_law 1132 = .ok (.iaload, 1) := by decide +kernel
theorem dL_law_1133 : decode cL_law 1133 = .ok (.invokevirtual 148, 3) := by decide +kernel
theorem dL_law_1136 : decode cL_law 1136 = .ok (.if_icmp .eq 219, 3) := by decide +kernel
theorem dL_law_1139 : decode cL_law 1139 = .ok (.iconst 0, 1) := by decide +kernel
theorem dL_law_1140 : decode cL_law 1140 = .ok (.ireturn, 1) := by decide +kernel
theorem dL_law_1141 : decode cL_law 1141 = .ok (.aload_n 1, 1) := by decide +kernel
theorem dL_law_1142 : decode cL_law 1142 = .ok (.aload_n 0, 1) := by decide +kernel
theorem dL_law_1143 : decode cL_law 1143 = .ok (.iload_n 3, 1) := by decide +kernel
theorem dL_law_1144 : decode cL_law 1144 = .ok (.iconst 1, 1) := by decide +kernel
theorem dL_law_1145 : decode cL_law 1145 = .ok (.iadd, 1) := by decide +kernel
theorem dL_law_1146 : decode cL_law 1146 = .ok (.iaload, 1) := by decide +kernel
theorem dL_law_1147 : decode cL_law 1147 = .ok (.aload_n 0, 1) := by decide +kernel
theorem dL_law_1148 : decode cL_law 1148 = .ok (.iload_n 3, 1) := by decide +kernel
theorem dL_law_1149 : decode cL_law 1149 = .ok (.iconst 2, 1) := by decide +kernel
theorem dL_law_1150 : decode cL_law 1150 = .ok (.iadd, 1) := by decide +kernel
theorem dL_law_1151 : decode cL_law 1151 = .ok (.iaload, 1) := by decide +kernel
theorem dL_law_1152 : decode cL_law 1152 = .ok (.invokevirtual 149, 3) := by decide +kernel
theorem dL_law_1155 : decode cL_law 1155 = .ok (.aload_n 2, 1) := by decide +kernel
theorem dL_law_1156 : decode cL_law 1156 = .ok (.aload_n 0, 1) := by decide +kernel
theorem dL_law_1157 : decode cL_law 1157 = .ok (.iload_n 3, 1) := by decide +kernel
theorem dL_law_1158 : decode cL_law 1158 = .ok (.iconst 1, 1) := by decide +kernel
theorem dL_law_1159 : decode cL_law 1159 = .ok (.iadd, 1) := by decide +kernel
theorem dL_law_1160 : decode cL_law 1160 = .ok (.iaload, 1) := by decide +kernel
theorem dL_law_1161 : decode cL_law 1161 = .ok (.aload_n 0, 1) := by decide +kernel
theorem dL_law_1162 : decode cL_law 1162 = .ok (.iload_n 3, 1) := by decide +kernel
theorem dL_law_1163 : decode cL_law 1163 = .ok (.iconst 2, 1) := by decide +kernel
theorem dL_law_1164 : decode cL_law 1164 = .ok (.iadd, 1) := by decide +kernel
theorem dL_law_1165 : decode cL_law 1165 = .ok (.iaload, 1) := by decide +kernel
theorem dL_law_1166 : decode cL_law 1166 = .ok (.invokevirtual 152, 3) := by decide +kernel
theorem dL_law_1169 : decode cL_law 1169 = .ok (.if_icmp .eq 186, 3) := by decide +kernel
theorem dL_law_1172 : decode cL_law 1172 = .ok (.iconst 0, 1) := by decide +kernel
theorem dL_law_1173 : decode cL_law 1173 = .ok (.ireturn, 1) := by decide +kernel
theorem dL_law_1174 : decode cL_law 1174 = .ok (.aload_n 1, 1) := by decide +kernel
theorem dL_law_1175 : decode cL_law 1175 = .ok (.aload_n 0, 1) := by decide +kernel
theorem dL_law_1176 : decode cL_law 1176 = .ok (.iload_n 3, 1) := by decide +kernel
theorem dL_law_1177 : decode cL_law 1177 = .ok (.iconst 1, 1) := by decide +kernel
theorem dL_law_1178 : decode cL_law 1178 = .ok (.iadd, 1) := by decide +kernel
theorem dL_law_1179 : decode cL_law 1179 = .ok (.iaload, 1) := by decide +kernel
theorem dL_law_1180 : decode cL_law 1180 = .ok (.aload_n 0, 1) := by decide +kernel
theorem dL_law_1181 : decode cL_law 1181 = .ok (.iload_n 3, 1) := by decide +kernel
theorem dL_law_1182 : decode cL_law 1182 = .ok (.iconst 2, 1) := by decide +kernel
theorem dL_law_1183 : decode cL_law 1183 = .ok (.iadd, 1) := by decide +kernel
theorem dL_law_1184 : decode cL_law 1184 = .ok (.iaload, 1) := by decide +kernel
theorem dL_law_1185 : decode cL_law 1185 = .ok (.invokevirtual 153, 3) := by decide +kernel
theorem dL_law_1188 : decode cL_law 1188 = .ok (.aload_n 2, 1) := by decide +kernel
theorem dL_law_1189 : decode cL_law 1189 = .ok (.aload_n 0, 1) := by decide +kernel
theorem dL_law_1190 : decode cL_law 1190 = .ok (.iload_n 3, 1) := by decide +kernel
theorem dL_law_1191 : decode cL_law 1191 = .ok (.iconst 1, 1) := by decide +kernel
theorem dL_law_1192 : decode cL_law 1192 = .ok (.iadd, 1) := by decide +kernel
theorem dL_law_1193 : decode cL_law 1193 = .ok (.iaload, 1) := by decide +kernel
theorem dL_law_1194 : decode cL_law 1194 = .ok (.aload_n 0, 1) := by decide +kernel
theorem dL_law_1195 : decode cL_law 1195 = .ok (.iload_n 3, 1) := by decide +kernel
theorem dL_law_1196 : decode cL_law 1196 = .ok (.iconst 2, 1) := by decide +kernel
theorem dL_law_1197 : decode cL_law 1197 = .ok (.iadd, 1) := by decide +kernel
theorem dL_law_1198 : decode cL_law 1198 = .ok (.iaload, 1) := by decide +kernel
theorem dL_law_1199 : decode cL_law 1199 = .ok (.invokevirtual 156, 3) := by decide +kernel
theorem dL_law_1202 : decode cL_law 1202 = .ok (.if_icmp .eq 153, 3) := by decide +kernel
theorem dL_law_1205 : decode cL_law 1205 = .ok (.iconst 0, 1) := by decide +kernel
theorem dL_law_1206 : decode cL_law 1206 = .ok (.ireturn, 1) := by decide +kernel
theorem dL_law_1207 : decode cL_law 1207 = .ok (.aload_n 1, 1) := by decide +kernel
theorem dL_law_1208 : decode cL_law 1208 = .ok (.aload_n 0, 1) := by decide +kernel
theorem dL_law_1209 : decode cL_law 1209 = .ok (.iload_n 3, 1) := by decide +kernel
theorem dL_law_1210 : decode cL_law 1210 = .ok (.iconst 1, 1) := by decide +kernel
theorem dL_law_1211 : decode cL_law 1211 = .ok (.iadd, 1) := by decide +kernel
theorem dL_law_1212 : decode cL_law 1212 = .ok (.iaload, 1) := by decide +kernel
theorem dL_law_1213 : decode cL_law 1213 = .ok (.invokevirtual 157, 3) := by decide +kernel
theorem dL_law_1216 : decode cL_law 1216 = .ok (.aload_n 2, 1) := by decide +kernel
theorem dL_law_1217 : decode cL_law 1217 = .ok (.aload_n 0, 1) := by decide +kernel
theorem dL_law_1218 : decode cL_law 1218 = .ok (.iload_n 3, 1) := by decide +kernel
theorem dL_law_1219 : decode cL_law 1219 = .ok (.iconst 1, 1) := by decide +kernel
theorem dL_law_1220 : decode cL_law 1220 = .ok (.iadd, 1) := by decide +kernel
theorem dL_law_1221 : decode cL_law 1221 = .ok (.iaload, 1) := by decide +kernel
theorem dL_law_1222 : decode cL_law 1222 = .ok (.invokevirtual 160, 3) := by decide +kernel
theorem dL_law_1225 : decode cL_law 1225 = .ok (.if_icmp .eq 130, 3) := by decide +kernel
theorem dL_law_1228 : decode cL_law 1228 = .ok (.iconst 0, 1) := by decide +kernel
theorem dL_law_1229 : decode cL_law 1229 = .ok (.ireturn, 1) := by decide +kernel
theorem dL_law_1230 : decode cL_law 1230 = .ok (.aload_n 1, 1) := by decide +kernel
theorem dL_law_1231 : decode cL_law 1231 = .ok (.aload_n 0, 1) := by decide +kernel
theorem dL_law_1232 : decode cL_law 1232 = .ok (.iload_n 3, 1) := by decide +kernel
theorem dL_law_1233 : decode cL_law 1233 = .ok (.iconst 1, 1) := by decide +kernel
theorem dL_law_1234 : decode cL_law 1234 = .ok (.iadd, 1) := by decide +kernel
theorem dL_law_1235 : decode cL_law 1235 = .ok (.iaload, 1) := by decide +kernel
theorem dL_law_1236 : decode cL_law 1236 = .ok (.aload_n 0, 1) := by decide +kernel
theorem dL_law_1237 : decode cL_law 1237 = .ok (.iload_n 3, 1) := by decide +kernel
theorem dL_law_1238 : decode cL_law 1238 = .ok (.iconst 2, 1) := by decide +kernel
theorem dL_law_1239 : decode cL_law 1239 = .ok (.iadd, 1) := by decide +kernel
theorem dL_law_1240 : decode cL_law 1240 = .ok (.iaload, 1) := by decide +kernel
theorem dL_law_1241 : decode cL_law 1241 = .ok (.aload_n 0, 1) := by decide +kernel
theorem dL_law_1242 : decode cL_law 1242 = .ok (.iload_n 3, 1) := by decide +kernel
theorem dL_law_1243 : decode cL_law 1243 = .ok (.iconst 3, 1) := by decide +kernel
theorem dL_law_1244 : decode cL_law 1244 = .ok (.iadd, 1) := by decide +kernel
theorem dL_law_1245 : decode cL_law 1245 = .ok (.iaload, 1) := by decide +kernel
theorem dL_law_1246 : decode cL_law 1246 = .ok (.invokevirtual 161, 3) := by decide +kernel
theorem dL_law_1249 : decode cL_law 1249 = .ok (.aload_n 2, 1) := by decide +kernel
theorem dL_law_1250 : decode cL_law 1250 = .ok (.aload_n 0, 1) := by decide +kernel
theorem dL_law_1251 : decode cL_law 1251 = .ok (.iload_n 3, 1) := by decide +kernel
theorem dL_law_1252 : decode cL_law 1252 = .ok (.iconst 1, 1) := by decide +kernel
theorem dL_law_1253 : decode cL_law 1253 = .ok (.iadd, 1) := by decide +kernel
theorem dL_law_1254 : decode cL_law 1254 = .ok (.iaload, 1) := by decide +kernel
theorem dL_law_1255 : decode cL_law 1255 = .ok (.aload_n 0, 1) := by decide +kernel
theorem dL_law_1256 : decode cL_law 1256 = .ok (.iload_n 3, 1) := by decide +kernel
theorem dL_law_1257 : decode cL_law 1257 = .ok (.iconst 2, 1) := by decide +kernel
theorem dL_law_1258 : decode cL_law 1258 = .ok (.iadd, 1) := by decide +kernel
theorem dL_law_1259 : decode cL_law 1259 = .ok (.iaload, 1) := by decide +kernel
theorem dL_law_1260 : decode cL_law 1260 = .ok (.aload_n 0, 1) := by decide +kernel
theorem dL_law_1261 : decode cL_law 1261 = .ok (.iload_n 3, 1) := by decide +kernel
theorem dL_law_1262 : decode cL_law 1262 = .ok (.iconst 3, 1) := by decide +kernel
theorem dL_law_1263 : decode cL_law 1263 = .ok (.iadd, 1) := by decide +kernel
theorem dL_law_1264 : decode cL_law 1264 = .ok (.iaload, 1) := by decide +kernel
theorem dL_law_1265 : decode cL_law 1265 = .ok (.invokevirtual 165, 3) := by decide +kernel
theorem dL_law_1268 : decode cL_law 1268 = .ok (.if_icmp .eq 87, 3) := by decide +kernel
theorem dL_law_1271 : decode cL_law 1271 = .ok (.iconst 0, 1) := by decide +kernel
theorem dL_law_1272 : decode cL_law 1272 = .ok (.ireturn, 1) := by decide +kernel
theorem dL_law_1273 : decode cL_law 1273 = .ok (.aload_n 1, 1) := by decide +kernel
theorem dL_law_1274 : decode cL_law 1274 = .ok (.aload_n 0, 1) := by decide +kernel
theorem dL_law_1275 : decode cL_law 1275 = .ok (.iload_n 3, 1) := by decide +kernel
theorem dL_law_1276 : decode cL_law 1276 = .ok (.iconst 1, 1) := by decide +kernel
theorem dL_law_1277 : decode cL_law 1277 = .ok (.iadd, 1) := by decide +kernel
theorem dL_law_1278 : decode cL_law 1278 = .ok (.iaload, 1) := by decide +kernel
theorem dL_law_1279 : decode cL_law 1279 = .ok (.aload_n 0, 1) := by decide +kernel
theorem dL_law_1280 : decode cL_law 1280 = .ok (.iload_n 3, 1) := by decide +kernel
theorem dL_law_1281 : decode cL_law 1281 = .ok (.iconst 2, 1) := by decide +kernel
theorem dL_law_1282 : decode cL_law 1282 = .ok (.iadd, 1) := by decide +kernel
theorem dL_law_1283 : decode cL_law 1283 = .ok (.iaload, 1) := by decide +kernel
theorem dL_law_1284 : decode cL_law 1284 = .ok (.invokevirtual 166, 3) := by decide +kernel
theorem dL_law_1287 : decode cL_law 1287 = .ok (.aload_n 2, 1) := by decide +kernel
theorem dL_law_1288 : decode cL_law 1288 = .ok (.aload_n 0, 1) := by decide +kernel
theorem dL_law_1289 : decode cL_law 1289 = .ok (.iload_n 3, 1) := by decide +kernel
theorem dL_law_1290 : decode cL_law 1290 = .ok (.iconst 1, 1) := by decide +kernel
theorem dL_law_1291 : decode cL_law 1291 = .ok (.iadd, 1) := by decide +kernel
theorem dL_law_1292 : decode cL_law 1292 = .ok (.iaload, 1) := by decide +kernel
theorem dL_law_1293 : decode cL_law 1293 = .ok (.aload_n 0, 1) := by decide +kernel
theorem dL_law_1294 : decode cL_law 1294 = .ok (.iload_n 3, 1) := by decide +kernel
theorem dL_law_1295 : decode cL_law 1295 = .ok (.iconst 2, 1) := by decide +kernel
theorem dL_law_1296 : decode cL_law 1296 = .ok (.iadd, 1) := by decide +kernel
theorem dL_law_1297 : decode cL_law 1297 = .ok (.iaload, 1) := by decide +kernel
theorem dL_law_1298 : decode cL_law 1298 = .ok (.invokevirtual 169, 3) := by decide +kernel
theorem dL_law_1301 : decode cL_law 1301 = .ok (.if_icmp .eq 54, 3) := by decide +kernel
theorem dL_law_1304 : decode cL_law 1304 = .ok (.iconst 0, 1) := by decide +kernel
theorem dL_law_1305 : decode cL_law 1305 = .ok (.ireturn, 1) := by decide +kernel
theorem dL_law_1306 : decode cL_law 1306 = .ok (.aload_n 1, 1) := by decide +kernel
theorem dL_law_1307 : decode cL_law 1307 = .ok (.aload_n 0, 1) := by decide +kernel
theorem dL_law_1308 : decode cL_law 1308 = .ok (.iload_n 3, 1) := by decide +kernel
theorem dL_law_1309 : decode cL_law 1309 = .ok (.iconst 1, 1) := by decide +kernel
theorem dL_law_1310 : decode cL_law 1310 = .ok (.iadd, 1) := by decide +kernel
theorem dL_law_1311 : decode cL_law 1311 = .ok (.iaload, 1) := by decide +kernel
theorem dL_law_1312 : decode cL_law 1312 = .ok (.invokevirtual 170, 3) := by decide +kernel
theorem dL_law_1315 : decode cL_law 1315 = .ok (.aload_n 2, 1) := by decide +kernel
theorem dL_law_1316 : decode cL_law 1316 = .ok (.aload_n 0, 1) := by decide +kernel
theorem dL_law_1317 : decode cL_law 1317 = .ok (.iload_n 3, 1) := by decide +kernel
theorem dL_law_1318 : decode cL_law 1318 = .ok (.iconst 1, 1) := by decide +kernel
theorem dL_law_1319 : decode cL_law 1319 = .ok (.iadd, 1) := by decide +kernel
theorem dL_law_1320 : decode cL_law 1320 = .ok (.iaload, 1) := by decide +kernel
theorem dL_law_1321 : decode cL_law 1321 = .ok (.invokevirtual 173, 3) := by decide +kernel
theorem dL_law_1324 : decode cL_law 1324 = .ok (.if_icmp .eq 31, 3) := by decide +kernel
theorem dL_law_1327 : decode cL_law 1327 = .ok (.iconst 0, 1) := by decide +kernel
theorem dL_law_1328 : decode cL_law 1328 = .ok (.ireturn, 1) := by decide +kernel
theorem dL_law_1329 : decode cL_law 1329 = .ok (.aload_n 1, 1) := by decide +kernel
theorem dL_law_1330 : decode cL_law 1330 = .ok (.invokevirtual 174, 3) := by decide +kernel
theorem dL_law_1333 : decode cL_law 1333 = .ok (.aload_n 2, 1) := by decide +kernel
theorem dL_law_1334 : decode cL_law 1334 = .ok (.invokevirtual 177, 3) := by decide +kernel
theorem dL_law_1337 : decode cL_law 1337 = .ok (.if_icmp .eq 18, 3) := by decide +kernel
theorem dL_law_1340 : decode cL_law 1340 = .ok (.iconst 0, 1) := by decide +kernel
theorem dL_law_1341 : decode cL_law 1341 = .ok (.ireturn, 1) := by decide +kernel
theorem dL_law_1342 : decode cL_law 1342 = .ok (.aload_n 1, 1) := by decide +kernel
theorem dL_law_1343 : decode cL_law 1343 = .ok (.invokevirtual 178, 3) := by decide +kernel
theorem dL_law_1346 : decode cL_law 1346 = .ok (.aload_n 2, 1) := by decide +kernel
theorem dL_law_1347 : decode cL_law 1347 = .ok (.invokevirtual 181, 3) := by decide +kernel
theorem dL_law_1350 : decode cL_law 1350 = .ok (.if_icmp .eq 5, 3) := by decide +kernel
theorem dL_law_1353 : decode cL_law 1353 = .ok (.iconst 0, 1) := by decide +kernel
theorem dL_law_1354 : decode cL_law 1354 = .ok (.ireturn, 1) := by decide +kernel
theorem dL_law_1355 : decode cL_law 1355 = .ok (.iinc 3 6, 3) := by decide +kernel
theorem dL_law_1358 : decode cL_law 1358 = .ok (.goto (-1340), 3) := by decide +kernel
theorem dL_law_1361 : decode cL_law 1361 = .ok (.iconst 1, 1) := by decide +kernel
theorem dL_law_1362 : decode cL_law 1362 = .ok (.ireturn, 1) := by decide +kernel
