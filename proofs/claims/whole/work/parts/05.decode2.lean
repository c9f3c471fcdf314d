theorem dX9_powered_38 : decode cX9_powered 38 = .ok (.aload_n 0, 1) := by decide +kernel
theorem dX9_powered_39 : decode cX9_powered 39 = .ok (.getfield 7, 3) := by decide +kernel
theorem dX9_powered_42 : decode cX9_powered 42 = .ok (.iconst 2, 1) := by decide +kernel
theorem dX9_powered_43 : decode cX9_powered 43 = .ok (.iaload, 1) := by decide +kernel
theorem dX9_powered_44 : decode cX9_powered 44 = .ok (.if_icmp .ge 34, 3) := by decide +kernel
theorem dX9_powered_47 : decode cX9_powered 47 = .ok (.aload_n 0, 1) := by decide +kernel
theorem dX9_powered_48 : decode cX9_powered 48 = .ok (.iload_n 2, 1) := by decide +kernel
theorem dX9_powered_49 : decode cX9_powered 49 = .ok (.iconst 3, 1) := by decide +kernel
theorem dX9_powered_50 : decode cX9_powered 50 = .ok (.aload_n 0, 1) := by decide +kernel
theorem dX9_powered_51 : decode cX9_powered 51 = .ok (.getfield 28, 3) := by decide +kernel
theorem dX9_powered_54 : decode cX9_powered 54 = .ok (.iload_n 2, 1) := by decide +kernel
theorem dX9_powered_55 : decode cX9_powered 55 = .ok (.iaload, 1) := by decide +kernel
theorem dX9_powered_56 : decode cX9_powered 56 = .ok (.invokevirtual 101, 3) := by decide +kernel
theorem dX9_powered_59 : decode cX9_powered 59 = .ok (.aload_n 0, 1) := by decide +kernel
theorem dX9_powered_60 : decode cX9_powered 60 = .ok (.iload_n 2, 1) := by decide +kernel
theorem dX9_powered_61 : decode cX9_powered 61 = .ok (.invokevirtual 79, 3) := by decide +kernel
theorem dX9_powered_64 : decode cX9_powered 64 = .ok (.ifCond .eq 8, 3) := by decide +kernel
theorem dX9_powered_67 : decode cX9_powered 67 = .ok (.aload_n 0, 1) := by decide +kernel
theorem dX9_powered_68 : decode cX9_powered 68 = .ok (.iload_n 2, 1) := by decide +kernel
theorem dX9_powered_69 : decode cX9_powered 69 = .ok (.invokevirtual 127, 3) := by decide +kernel
theorem dX9_powered_72 : decode cX9_powered 72 = .ok (.iinc 2 1, 3) := by decide +kernel
theorem dX9_powered_75 : decode cX9_powered 75 = .ok (.goto (-38), 3) := by decide +kernel
theorem dX9_powered_78 : decode cX9_powered 78 = .ok (.iload_n 1, 1) := by decide +kernel
theorem dX9_powered_79 : decode cX9_powered 79 = .ok (.ireturn, 1) := by decide +kernel
theorem dX9_cool_0 : decode cX9_cool 0 = .ok (.iconst 0, 1) := by decide +kernel
theorem dX9_cool_1 : decode cX9_cool 1 = .ok (.istore_n 1, 1) := by decide +kernel
theorem dX9_cool_2 : decode cX9_cool 2 = .ok (.iload_n 1, 1) := by decide +kernel
theorem dX9_cool_3 : decode cX9_cool 3 = .ok (.aload_n 0, 1) := by decide +kernel
theorem dX9_cool_4 : decode cX9_cool 4 = .ok (.getfield 7, 3) := by decide +kernel
theorem dX9_cool_7 : decode cX9_cool 7 = .ok (.iconst 2, 1) := by decide +kernel
theorem dX9_cool_8 : decode cX9_cool 8 = .ok (.iaload, 1) := by decide +kernel
theorem dX9_cool_9 : decode cX9_cool 9 = .ok (.if_icmp .ge 52, 3) := by decide +kernel
theorem dX9_cool_12 : decode cX9_cool 12 = .ok (.aload_n 0, 1) := by decide +kernel
theorem dX9_cool_13 : decode cX9_cool 13 = .ok (.iload_n 1, 1) := by decide +kernel
theorem dX9_cool_14 : decode cX9_cool 14 = .ok (.invokevirtual 68, 3) := by decide +kernel
theorem dX9_cool_17 : decode cX9_cool 17 = .ok (.bipush 15, 2) := by decide +kernel
theorem dX9_cool_19 : decode cX9_cool 19 = .ok (.isub, 1) := by decide +kernel
theorem dX9_cool_20 : decode cX9_cool 20 = .ok (.istore_n 2, 1) := by decide +kernel
theorem dX9_cool_21 : decode cX9_cool 21 = .ok (.aload_n 0, 1) := by decide +kernel
theorem dX9_cool_22 : decode cX9_cool 22 = .ok (.iload_n 1, 1) := by decide +kernel
theorem dX9_cool_23 : decode cX9_cool 23 = .ok (.bipush 11, 2) := by decide +kernel
theorem dX9_cool_25 : decode cX9_cool 25 = .ok (.invokevirtual 49, 3) := by decide +kernel
theorem dX9_cool_28 : decode cX9_cool 28 = .ok (.ifCond .le 27, 3) := by decide +kernel
theorem dX9_cool_31 : decode cX9_cool 31 = .ok (.iload_n 2, 1) := by decide +kernel
theorem dX9_cool_32 : decode cX9_cool 32 = .ok (.ifCond .le 23, 3) := by decide +kernel
theorem dX9_cool_35 : decode cX9_cool 35 = .ok (.aload_n 0, 1) := by decide +kernel
theorem dX9_cool_36 : decode cX9_cool 36 = .ok (.iload_n 1, 1) := by decide +kernel
theorem dX9_cool_37 : decode cX9_cool 37 = .ok (.bipush 12, 2) := by decide +kernel
theorem dX9_cool_39 : decode cX9_cool 39 = .ok (.iload_n 2, 1) := by decide +kernel
theorem dX9_cool_40 : decode cX9_cool 40 = .ok (.aload_n 0, 1) := by decide +kernel
theorem dX9_cool_41 : decode cX9_cool 41 = .ok (.iload_n 1, 1) := by decide +kernel
theorem dX9_cool_42 : decode cX9_cool 42 = .ok (.bipush 11, 2) := by decide +kernel
theorem dX9_cool_44 : decode cX9_cool 44 = .ok (.invokevirtual 49, 3) := by decide +kernel
theorem dX9_cool_47 : decode cX9_cool 47 = .ok (.imul, 1) := by decide +kernel
theorem dX9_cool_48 : decode cX9_cool 48 = .ok (.bipush 30, 2) := by decide +kernel
theorem dX9_cool_50 : decode cX9_cool 50 = .ok (.idiv, 1) := by decide +kernel
theorem dX9_cool_51 : decode cX9_cool 51 = .ok (.ineg, 1) := by decide +kernel
theorem dX9_cool_52 : decode cX9_cool 52 = .ok (.invokevirtual 101, 3) := by decide +kernel
theorem dX9_cool_55 : decode cX9_cool 55 = .ok (.iinc 1 1, 3) := by decide +kernel
theorem dX9_cool_58 : decode cX9_cool 58 = .ok (.goto (-56), 3) := by decide +kernel
theorem dX9_cool_61 : decode cX9_cool 61 = .ok (.return_, 1) := by decide +kernel
theorem dX9_unlock_0 : decode cX9_unlock 0 = .ok (.iconst 0, 1) := by decide +kernel
theorem dX9_unlock_1 : decode cX9_unlock 1 = .ok (.istore_n 1, 1) := by decide +kernel
theorem dX9_unlock_2 : decode cX9_unlock 2 = .ok (.iload_n 1, 1) := by decide +kernel
theorem dX9_unlock_3 : decode cX9_unlock 3 = .ok (.aload_n 0, 1) := by decide +kernel
theorem dX9_unlock_4 : decode cX9_unlock 4 = .ok (.getfield 7, 3) := by decide +kernel
theorem dX9_unlock_7 : decode cX9_unlock 7 = .ok (.iconst 2, 1) := by decide +kernel
theorem dX9_unlock_8 : decode cX9_unlock 8 = .ok (.iaload, 1) := by decide +kernel
theorem dX9_unlock_9 : decode cX9_unlock 9 = .ok (.if_icmp .ge 51, 3) := by decide +kernel
theorem dX9_unlock_12 : decode cX9_unlock 12 = .ok (.aload_n 0, 1) := by decide +kernel
theorem dX9_unlock_13 : decode cX9_unlock 13 = .ok (.iload_n 1, 1) := by decide +kernel
theorem dX9_unlock_14 : decode cX9_unlock 14 = .ok (.bipush 13, 2) := by decide +kernel
theorem dX9_unlock_16 : decode cX9_unlock 16 = .ok (.invokevirtual 49, 3) := by decide +kernel
theorem dX9_unlock_19 : decode cX9_unlock 19 = .ok (.iconst 2, 1) := by decide +kernel
theorem dX9_unlock_20 : decode cX9_unlock 20 = .ok (.if_icmp .ne 34, 3) := by decide +kernel
theorem dX9_unlock_23 : decode cX9_unlock 23 = .ok (.aload_n 0, 1) := by decide +kernel
theorem dX9_unlock_24 : decode cX9_unlock 24 = .ok (.iload_n 1, 1) := by decide +kernel
theorem dX9_unlock_25 : decode cX9_unlock 25 = .ok (.invokevirtual 79, 3) := by decide +kernel
theorem dX9_unlock_28 : decode cX9_unlock 28 = .ok (.ifCond .ne 26, 3) := by decide +kernel
theorem dX9_unlock_31 : decode cX9_unlock 31 = .ok (.aload_n 0, 1) := by decide +kernel
theorem dX9_unlock_32 : decode cX9_unlock 32 = .ok (.iload_n 1, 1) := by decide +kernel
theorem dX9_unlock_33 : decode cX9_unlock 33 = .ok (.invokevirtual 68, 3) := by decide +kernel
theorem dX9_unlock_36 : decode cX9_unlock 36 = .ok (.aload_n 0, 1) := by decide +kernel
theorem dX9_unlock_37 : decode cX9_unlock 37 = .ok (.getfield 7, 3) := by decide +kernel
theorem dX9_unlock_40 : decode cX9_unlock 40 = .ok (.bipush 6, 2) := by decide +kernel
theorem dX9_unlock_42 : decode cX9_unlock 42 = .ok (.iaload, 1) := by decide +kernel
theorem dX9_unlock_43 : decode cX9_unlock 43 = .ok (.if_icmp .gt 11, 3) := by decide +kernel
theorem dX9_unlock_46 : decode cX9_unlock 46 = .ok (.aload_n 0, 1) := by decide +kernel
theorem dX9_unlock_47 : decode cX9_unlock 47 = .ok (.iload_n 1, 1) := by decide +kernel
theorem dX9_unlock_48 : decode cX9_unlock 48 = .ok (.bipush 13, 2) := by decide +kernel
theorem dX9_unlock_50 : decode cX9_unlock 50 = .ok (.iconst 1, 1) := by decide +kernel
theorem dX9_unlock_51 : decode cX9_unlock 51 = .ok (.invokevirtual 63, 3) := by decide +kernel
theorem dX9_unlock_54 : decode cX9_unlock 54 = .ok (.iinc 1 1, 3) := by decide +kernel
theorem dX9_unlock_57 : decode cX9_unlock 57 = .ok (.goto (-55), 3) := by decide +kernel
theorem dX9_unlock_60 : decode cX9_unlock 60 = .ok (.return_, 1) := by decide +kernel
theorem dX9_endLeases_0 : decode cX9_endLeases 0 = .ok (.iconst 0, 1) := by decide +kernel
theorem dX9_endLeases_1 : decode cX9_endLeases 1 = .ok (.istore_n 1, 1) := by decide +kernel
theorem dX9_endLeases_2 : decode cX9_endLeases 2 = .ok (.iconst 0, 1) := by decide +kernel
theorem dX9_endLeases_3 : decode cX9_endLeases 3 = .ok (.istore_n 2, 1) := by decide +kernel
theorem dX9_endLeases_4 : decode cX9_endLeases 4 = .ok (.iload_n 2, 1) := by decide +kernel
theorem dX9_endLeases_5 : decode cX9_endLeases 5 = .ok (.aload_n 0, 1) := by decide +kernel
theorem dX9_endLeases_6 : decode cX9_endLeases 6 = .ok (.getfield 7, 3) := by decide +kernel
theorem dX9_endLeases_9 : decode cX9_endLeases 9 = .ok (.bipush 8, 2) := by decide +kernel
theorem dX9_endLeases_11 : decode cX9_endLeases 11 = .ok (.iaload, 1) := by decide +kernel
theorem dX9_endLeases_12 : decode cX9_endLeases 12 = .ok (.if_icmp .ge 72, 3) := by decide +kernel
theorem dX9_endLeases_15 : decode cX9_endLeases 15 = .ok (.aload_n 0, 1) := by decide +kernel
theorem dX9_endLeases_16 : decode cX9_endLeases 16 = .ok (.getfield 7, 3) := by decide +kernel
theorem dX9_endLeases_19 : decode cX9_endLeases 19 = .ok (.sipush 351, 3) := by decide +kernel
theorem dX9_endLeases_22 : decode cX9_endLeases 22 = .ok (.iconst 5, 1) := by decide +kernel
theorem dX9_endLeases_23 : decode cX9_endLeases 23 = .ok (.iload_n 2, 1) := by decide +kernel
theorem dX9_endLeases_24 : decode cX9_endLeases 24 = .ok (.imul, 1) := by decide +kernel
theorem dX9_endLeases_25 : decode cX9_endLeases 25 = .ok (.iadd, 1) := by decide +kernel
theorem dX9_endLeases_26 : decode cX9_endLeases 26 = .ok (.iconst 3, 1) := by decide +kernel
theorem dX9_endLeases_27 : decode cX9_endLeases 27 = .ok (.iadd, 1) := by decide +kernel
theorem dX9_endLeases_28 : decode cX9_endLeases 28 = .ok (.dup2, 1) := by decide +kernel
theorem dX9_endLeases_29 : decode cX9_endLeases 29 = .ok (.iaload, 1) := by decide +kernel
theorem dX9_endLeases_30 : decode cX9_endLeases 30 = .ok (.iconst 1, 1) := by decide +kernel
theorem dX9_endLeases_31 : decode cX9_endLeases 31 = .ok (.isub, 1) := by decide +kernel
theorem dX9_endLeases_32 : decode cX9_endLeases 32 = .ok (.iastore, 1) := by decide +kernel
theorem dX9_endLeases_33 : decode cX9_endLeases 33 = .ok (.aload_n 0, 1) := by decide +kernel
theorem dX9_endLeases_34 : decode cX9_endLeases 34 = .ok (.iload_n 2, 1) := by decide +kernel
theorem dX9_endLeases_35 : decode cX9_endLeases 35 = .ok (.iconst 3, 1) := by decide +kernel
theorem dX9_endLeases_36 : decode cX9_endLeases 36 = .ok (.invokevirtual 53, 3) := by decide +kernel
theorem dX9_endLeases_39 : decode cX9_endLeases 39 = .ok (.ifCond .le 39, 3) := by decide +kernel
theorem dX9_endLeases_42 : decode cX9_endLeases 42 = .ok (.iconst 0, 1) := by decide +kernel
theorem dX9_endLeases_43 : decode cX9_endLeases 43 = .ok (.istore_n 3, 1) := by decide +kernel
theorem dX9_endLeases_44 : decode cX9_endLeases 44 = .ok (.iload_n 3, 1) := by decide +kernel
theorem dX9_endLeases_45 : decode cX9_endLeases 45 = .ok (.iconst 5, 1) := by decide +kernel
theorem dX9_endLeases_46 : decode cX9_endLeases 46 = .ok (.if_icmp .ge 29, 3) := by decide +kernel
theorem dX9_endLeases_49 : decode cX9_endLeases 49 = .ok (.aload_n 0, 1) := by decide +kernel
theorem dX9_endLeases_50 : decode cX9_endLeases 50 = .ok (.getfield 7, 3) := by decide +kernel
theorem dX9_endLeases_53 : decode cX9_endLeases 53 = .ok (.sipush 351, 3) := by decide +kernel
theorem dX9_endLeases_56 : decode cX9_endLeases 56 = .ok (.iconst 5, 1) := by decide +kernel
theorem dX9_endLeases_57 : decode cX9_endLeases 57 = .ok (.iload_n 1, 1) := by decide +kernel
theorem dX9_endLeases_58 : decode cX9_endLeases 58 = .ok (.imul, 1) := by decide +kernel
theorem dX9_endLeases_59 : decode cX9_endLeases 59 = .ok (.iadd, 1) := by decide +kernel
theorem dX9_endLeases_60 : decode cX9_endLeases 60 = .ok (.iload_n 3, 1) := by decide +kernel
theorem dX9_endLeases_61 : decode cX9_endLeases 61 = .ok (.iadd, 1) := by decide +kernel
theorem dX9_endLeases_62 : decode cX9_endLeases 62 = .ok (.aload_n 0, 1) := by decide +kernel
theorem dX9_endLeases_63 : decode cX9_endLeases 63 = .ok (.iload_n 2, 1) := by decide +kernel
theorem dX9_endLeases_64 : decode cX9_endLeases 64 = .ok (.iload_n 3, 1) := by decide +kernel
theorem dX9_endLeases_65 : decode cX9_endLeases 65 = .ok (.invokevirtual 53, 3) := by decide +kernel
theorem dX9_endLeases_68 : decode cX9_endLeases 68 = .ok (.iastore, 1) := by decide +kernel
theorem dX9_endLeases_69 : decode cX9_endLeases 69 = .ok (.iinc 3 1, 3) := by decide +kernel
theorem dX9_endLeases_72 : decode cX9_endLeases 72 = .ok (.goto (-28), 3) := by decide +kernel
theorem dX9_endLeases_75 : decode cX9_endLeases 75 = .ok (.iinc 1 1, 3) := by decide +kernel
theorem dX9_endLeases_78 : decode cX9_endLeases 78 = .ok (.iinc 2 1, 3) := by decide +kernel
theorem dX9_endLeases_81 : decode cX9_endLeases 81 = .ok (.goto (-77), 3) := by decide +kernel
theorem dX9_endLeases_84 : decode cX9_endLeases 84 = .ok (.aload_n 0, 1) := by decide +kernel
theorem dX9_endLeases_85 : decode cX9_endLeases 85 = .ok (.getfield 7, 3) := by decide +kernel
theorem dX9_endLeases_88 : decode cX9_endLeases 88 = .ok (.bipush 8, 2) := by decide +kernel
theorem dX9_endLeases_90 : decode cX9_endLeases 90 = .ok (.iload_n 1, 1) := by decide +kernel
theorem dX9_endLeases_91 : decode cX9_endLeases 91 = .ok (.iastore, 1) := by decide +kernel
theorem dX9_endLeases_92 : decode cX9_endLeases 92 = .ok (.return_, 1) := by decide +kernel
theorem dX9_minute_0 : decode cX9_minute 0 = .ok (.aload_n 0, 1) := by decide +kernel
theorem dX9_minute_1 : decode cX9_minute 1 = .ok (.getfield 7, 3) := by decide +kernel
theorem dX9_minute_4 : decode cX9_minute 4 = .ok (.iconst 1, 1) := by decide +kernel
theorem dX9_minute_5 : decode cX9_minute 5 = .ok (.iaload, 1) := by decide +kernel
theorem dX9_minute_6 : decode cX9_minute 6 = .ok (.iconst 1, 1) := by decide +kernel
theorem dX9_minute_7 : decode cX9_minute 7 = .ok (.if_icmp .ne 7, 3) := by decide +kernel
theorem dX9_minute_10 : decode cX9_minute 10 = .ok (.iconst 1, 1) := by decide +kernel
theorem dX9_minute_11 : decode cX9_minute 11 = .ok (.goto 4, 3) := by decide +kernel
theorem dX9_minute_14 : decode cX9_minute 14 = .ok (.iconst 0, 1) := by decide +kernel
theorem dX9_minute_15 : decode cX9_minute 15 = .ok (.istore_n 1, 1) := by decide +kernel
theorem dX9_minute_16 : decode cX9_minute 16 = .ok (.iload_n 1, 1) := by decide +kernel
theorem dX9_minute_17 : decode cX9_minute 17 = .ok (.ifCond .eq 10, 3) := by decide +kernel
theorem dX9_minute_20 : decode cX9_minute 20 = .ok (.aload_n 0, 1) := by decide +kernel
theorem dX9_minute_21 : decode cX9_minute 21 = .ok (.invokevirtual 130, 3) := by decide +kernel
theorem dX9_minute_24 : decode cX9_minute 24 = .ok (.goto 4, 3) := by decide +kernel
theorem dX9_minute_27 : decode cX9_minute 27 = .ok (.iconst 0, 1) := by decide +kernel
theorem dX9_minute_28 : decode cX9_minute 28 = .ok (.istore_n 2, 1) := by decide +kernel
theorem dX9_minute_29 : decode cX9_minute 29 = .ok (.aload_n 0, 1) := by decide +kernel
theorem dX9_minute_30 : decode cX9_minute 30 = .ok (.invokevirtual 133, 3) := by decide +kernel
theorem dX9_minute_33 : decode cX9_minute 33 = .ok (.iload_n 1, 1) := by decide +kernel
theorem dX9_minute_34 : decode cX9_minute 34 = .ok (.ifCond .eq 7, 3) := by decide +kernel
theorem dX9_minute_37 : decode cX9_minute 37 = .ok (.aload_n 0, 1) := by decide +kernel
theorem dX9_minute_38 : decode cX9_minute 38 = .ok (.invokevirtual 136, 3) := by decide +kernel
theorem dX9_minute_41 : decode cX9_minute 41 = .ok (.aload_n 0, 1) := by decide +kernel
theorem dX9_minute_42 : decode cX9_minute 42 = .ok (.getfield 7, 3) := by decide +kernel
theorem dX9_minute_45 : decode cX9_minute 45 = .ok (.bipush 11, 2) := by decide +kernel
theorem dX9_minute_47 : decode cX9_minute 47 = .ok (.dup2, 1) := by decide +kernel
theorem dX9_minute_48 : decode cX9_minute 48 = .ok (.iaload, 1) := by decide +kernel
theorem dX9_minute_49 : decode cX9_minute 49 = .ok (.iload_n 1, 1) := by decide +kernel
theorem dX9_minute_50 : decode cX9_minute 50 = .ok (.ifCond .eq 7, 3) := by decide +kernel
theorem dX9_minute_53 : decode cX9_minute 53 = .ok (.iconst 0, 1) := by decide +kernel
theorem dX9_minute_54 : decode cX9_minute 54 = .ok (.goto 4, 3) := by decide +kernel
theorem dX9_minute_57 : decode cX9_minute 57 = .ok (.iconst 1, 1) := by decide +kernel
theorem dX9_minute_58 : decode cX9_minute 58 = .ok (.iadd, 1) := by decide +kernel
theorem dX9_minute_59 : decode cX9_minute 59 = .ok (.iastore, 1) := by decide +kernel
theorem dX9_minute_60 : decode cX9_minute 60 = .ok (.aload_n 0, 1) := by decide +kernel
theorem dX9_minute_61 : decode cX9_minute 61 = .ok (.invokevirtual 139, 3) := by decide +kernel
theorem dX9_minute_64 : decode cX9_minute 64 = .ok (.aload_n 0, 1) := by decide +kernel
theorem dX9_minute_65 : decode cX9_minute 65 = .ok (.getfield 7, 3) := by decide +kernel
theorem dX9_minute_68 : decode cX9_minute 68 = .ok (.iconst 0, 1) := by decide +kernel
theorem dX9_minute_69 : decode cX9_minute 69 = .ok (.dup2, 1) := by decide +kernel
theorem dX9_minute_70 : decode cX9_minute 70 = .ok (.iaload, 1) := by decide +kernel
theorem dX9_minute_71 : decode cX9_minute 71 = .ok (.iconst 1, 1) := by decide +kernel
theorem dX9_minute_72 : decode cX9_minute 72 = .ok (.iadd, 1) := by decide +kernel
theorem dX9_minute_73 : decode cX9_minute 73 = .ok (.iastore, 1) := by decide +kernel
theorem dX9_minute_74 : decode cX9_minute 74 = .ok (.iload_n 2, 1) := by decide +kernel
theorem dX9_minute_75 : decode cX9_minute 75 = .ok (.ireturn, 1) := by decide +kernel
theorem dX9_pass_0 : decode cX9_pass 0 = .ok (.iload_n 1, 1) := by decide +kernel
theorem dX9_pass_1 : decode cX9_pass 1 = .ok (.iconst 1, 1) := by decide +kernel
theorem dX9_pass_2 : decode cX9_pass 2 = .ok (.bipush 60, 2) := by decide +kernel
theorem dX9_pass_4 : decode cX9_pass 4 = .ok (.invokestatic 45, 3) := by decide +kernel
theorem dX9_pass_7 : decode cX9_pass 7 = .ok (.ifCond .ne 6, 3) := by decide +kernel
theorem dX9_pass_10 : decode cX9_pass 10 = .ok (.bipush (-2), 2) := by decide +kernel
theorem dX9_pass_12 : decode cX9_pass 12 = .ok (.ireturn, 1) := by decide +kernel
theorem dX9_pass_13 : decode cX9_pass 13 = .ok (.aload_n 0, 1) := by decide +kernel
theorem dX9_pass_14 : decode cX9_pass 14 = .ok (.invokevirtual 60, 3) := by decide +kernel
theorem dX9_pass_17 : decode cX9_pass 17 = .ok (.iconst 0, 1) := by decide +kernel
theorem dX9_pass_18 : decode cX9_pass 18 = .ok (.istore_n 2, 1) := by decide +kernel
theorem dX9_pass_19 : decode cX9_pass 19 = .ok (.iconst 0, 1) := by decide +kernel
theorem dX9_pass_20 : decode cX9_pass 20 = .ok (.istore_n 3, 1) := by decide +kernel
theorem dX9_pass_21 : decode cX9_pass 21 = .ok (.iload_n 3, 1) := by decide +kernel
theorem dX9_pass_22 : decode cX9_pass 22 = .ok (.iload_n 1, 1) := by decide +kernel
theorem dX9_pass_23 : decode cX9_pass 23 = .ok (.if_icmp .ge 16, 3) := by decide +kernel
theorem dX9_pass_26 : decode cX9_pass 26 = .ok (.iload_n 2, 1) := by decide +kernel
theorem dX9_pass_27 : decode cX9_pass 27 = .ok (.aload_n 0, 1) := by decide +kernel
theorem dX9_pass_28 : decode cX9_pass 28 = .ok (.invokevirtual 142, 3) := by decide +kernel
theorem dX9_pass_31 : decode cX9_pass 31 = .ok (.iadd, 1) := by decide +kernel
theorem dX9_pass_32 : decode cX9_pass 32 = .ok (.istore_n 2, 1) := by decide +kernel
theorem dX9_pass_33 : decode cX9_pass 33 = .ok (.iinc 3 1, 3) := by decide +kernel
theorem dX9_pass_36 : decode cX9_pass 36 = .ok (.goto (-15), 3) := by decide +kernel
theorem dX9_pass_39 : decode cX9_pass 39 = .ok (.iload_n 2, 1) := by decide +kernel
theorem dX9_pass_40 : decode cX9_pass 40 = .ok (.ireturn, 1) := by decide +kernel
theorem dX9_type_0 : decode cX9_type 0 = .ok (.aload_n 0, 1) := by decide +kernel
theorem dX9_type_1 : decode cX9_type 1 = .ok (.getfield 145, 3) := by decide +kernel
theorem dX9_type_4 : decode cX9_type 4 = .ok (.bipush 60, 2) := by decide +kernel
theorem dX9_type_6 : decode cX9_type 6 = .ok (.if_icmp .ne 6, 3) := by decide +kernel
theorem dX9_type_9 : decode cX9_type 9 = .ok (.bipush (-3), 2) := by decide +kernel
theorem dX9_type_11 : decode cX9_type 11 = .ok (.ireturn, 1) := by decide +kernel
theorem dX9_type_12 : decode cX9_type 12 = .ok (.aload_n 0, 1) := by decide +kernel
theorem dX9_type_13 : decode cX9_type 13 = .ok (.getfield 22, 3) := by decide +kernel
theorem dX9_type_16 : decode cX9_type 16 = .ok (.aload_n 0, 1) := by decide +kernel
theorem dX9_type_17 : decode cX9_type 17 = .ok (.getfield 145, 3) := by decide +kernel
theorem dX9_type_20 : decode cX9_type 20 = .ok (.iload_n 1, 1) := by decide +kernel
theorem dX9_type_21 : decode cX9_type 21 = .ok (.iastore, 1) := by decide +kernel
theorem dX9_type_22 : decode cX9_type 22 = .ok (.aload_n 0, 1) := by decide +kernel
theorem dX9_type_23 : decode cX9_type 23 = .ok (.dup, 1) := by decide +kernel
theorem dX9_type_24 : decode cX9_type 24 = .ok (.getfield 145, 3) := by decide +kernel
theorem dX9_type_27 : decode cX9_type 27 = .ok (.iconst 1, 1) := by decide +kernel
theorem dX9_type_28 : decode cX9_type 28 = .ok (.iadd, 1) := by decide +kernel
theorem dX9_type_29 : decode cX9_type 29 = .ok (.putfield 145, 3) := by decide +kernel
theorem dX9_type_32 : decode cX9_type 32 = .ok (.aload_n 0, 1) := by decide +kernel
theorem dX9_type_33 : decode cX9_type 33 = .ok (.getfield 145, 3) := by decide +kernel
theorem dX9_type_36 : decode cX9_type 36 = .ok (.ireturn, 1) := by decide +kernel
theorem dX9_clearText_0 : decode cX9_clearText 0 = .ok (.aload_n 0, 1) := by decide +kernel
theorem dX9_clearText_1 : decode cX9_clearText 1 = .ok (.getfield 145, 3) := by decide +kernel
theorem dX9_clearText_4 : decode cX9_clearText 4 = .ok (.istore_n 1, 1) := by decide +kernel
theorem dX9_clearText_5 : decode cX9_clearText 5 = .ok (.aload_n 0, 1) := by decide +kernel
theorem dX9_clearText_6 : decode cX9_clearText 6 = .ok (.iconst 0, 1) := by decide +kernel
theorem dX9_clearText_7 : decode cX9_clearText 7 = .ok (.putfield 145, 3) := by decide +kernel
theorem dX9_clearText_10 : decode cX9_clearText 10 = .ok (.iload_n 1, 1) := by decide +kernel
theorem dX9_clearText_11 : decode cX9_clearText 11 = .ok (.ireturn, 1) := by decide +kernel
theorem dX9_character_0 : decode cX9_character 0 = .ok (.iload_n 1, 1) := by decide +kernel
theorem dX9_character_1 : decode cX9_character 1 = .ok (.aload_n 0, 1) := by decide +kernel
theorem dX9_character_2 : decode cX9_character 2 = .ok (.getfield 145, 3) := by decide +kernel
theorem dX9_character_5 : decode cX9_character 5 = .ok (.if_icmp .ge 12, 3) := by decide +kernel
theorem dX9_character_8 : decode cX9_character 8 = .ok (.aload_n 0, 1) := by decide +kernel
theorem dX9_character_9 : decode cX9_character 9 = .ok (.getfield 22, 3) := by decide +kernel
theorem dX9_character_12 : decode cX9_character 12 = .ok (.iload_n 1, 1) := by decide +kernel
theorem dX9_character_13 : decode cX9_character 13 = .ok (.iaload, 1) := by decide +kernel
theorem dX9_character_14 : decode cX9_character 14 = .ok (.goto 4, 3) := by decide +kernel
theorem dX9_character_17 : decode cX9_character 17 = .ok (.iconst (-1), 1) := by decide +kernel
theorem dX9_character_18 : decode cX9_character 18 = .ok (.ireturn, 1) := by decide +kernel
theorem dX9_readText_0 : decode cX9_readText 0 = .ok (.iconst 0, 1) := by decide +kernel
theorem dX9_readText_1 : decode cX9_readText 1 = .ok (.istore_n 1, 1) := by decide +kernel
theorem dX9_readText_2 : decode cX9_readText 2 = .ok (.aload_n 0, 1) := by decide +kernel
theorem dX9_readText_3 : decode cX9_readText 3 = .ok (.iconst 0, 1) := by decide +kernel
theorem dX9_readText_4 : decode cX9_readText 4 = .ok (.putfield 148, 3) := by decide +kernel
theorem dX9_readText_7 : decode cX9_readText 7 = .ok (.iconst 0, 1) := by decide +kernel
theorem dX9_readText_8 : decode cX9_readText 8 = .ok (.istore_n 2, 1) := by decide +kernel
theorem dX9_readText_9 : decode cX9_readText 9 = .ok (.iload_n 2, 1) := by decide +kernel
theorem dX9_readText_10 : decode cX9_readText 10 = .ok (.bipush 60, 2) := by decide +kernel
theorem dX9_readText_12 : decode cX9_readText 12 = .ok (.if_icmp .gt 180, 3) := by decide +kernel
theorem dX9_readText_15 : decode cX9_readText 15 = .ok (.aload_n 0, 1) := by decide +kernel
theorem dX9_readText_16 : decode cX9_readText 16 = .ok (.iload_n 1, 1) := by decide +kernel
theorem dX9_readText_17 : decode cX9_readText 17 = .ok (.invokevirtual 151, 3) := by decide +kernel
theorem dX9_readText_20 : decode cX9_readText 20 = .ok (.istore_n 3, 1) := by decide +kernel
theorem dX9_readText_21 : decode cX9_readText 21 = .ok (.iload_n 3, 1) := by decide +kernel
theorem dX9_readText_22 : decode cX9_readText 22 = .ok (.bipush 102, 2) := by decide +kernel
theorem dX9_readText_24 : decode cX9_readText 24 = .ok (.if_icmp .eq 29, 3) := by decide +kernel
theorem dX9_readText_27 : decode cX9_readText 27 = .ok (.iload_n 3, 1) := by decide +kernel
theorem dX9_readText_28 : decode cX9_readText 28 = .ok (.bipush 104, 2) := by decide +kernel
theorem dX9_readText_30 : decode cX9_readText 30 = .ok (.if_icmp .eq 23, 3) := by decide +kernel
theorem dX9_readText_33 : decode cX9_readText 33 = .ok (.iload_n 3, 1) := by decide +kernel
theorem dX9_readText_34 : decode cX9_readText 34 = .ok (.bipush 119, 2) := by decide +kernel
theorem dX9_readText_36 : decode cX9_readText 36 = .ok (.if_icmp .eq 17, 3) := by decide +kernel
theorem dX9_readText_39 : decode cX9_readText 39 = .ok (.iload_n 3, 1) := by decide +kernel
theorem dX9_readText_40 : decode cX9_readText 40 = .ok (.bipush 100, 2) := by decide +kernel
theorem dX9_readText_42 : decode cX9_readText 42 = .ok (.if_icmp .eq 11, 3) := by decide +kernel
theorem dX9_readText_45 : decode cX9_readText 45 = .ok (.iload_n 3, 1) := by decide +kernel
theorem dX9_readText_46 : decode cX9_readText 46 = .ok (.bipush 115, 2) := by decide +kernel
theorem dX9_readText_48 : decode cX9_readText 48 = .ok (.if_icmp .eq 5, 3) := by decide +kernel
theorem dX9_readText_51 : decode cX9_readText 51 = .ok (.iload_n 1, 1) := by decide +kernel
theorem dX9_readText_52 : decode cX9_readText 52 = .ok (.ireturn, 1) := by decide +kernel
theorem dX9_readText_53 : decode cX9_readText 53 = .ok (.iinc 1 1, 3) := by decide +kernel
theorem dX9_readText_56 : decode cX9_readText 56 = .ok (.iconst 0, 1) := by decide +kernel
theorem dX9_readText_57 : decode cX9_readText 57 = .ok (.istore 4, 2) := by decide +kernel
theorem dX9_readText_59 : decode cX9_readText 59 = .ok (.iload_n 3, 1) := by decide +kernel
theorem dX9_readText_60 : decode cX9_readText 60 = .ok (.bipush 100, 2) := by decide +kernel
theorem dX9_readText_62 : decode cX9_readText 62 = .ok (.if_icmp .eq 67, 3) := by decide +kernel
theorem dX9_readText_65 : decode cX9_readText 65 = .ok (.aload_n 0, 1) := by decide +kernel
theorem dX9_readText_66 : decode cX9_readText 66 = .ok (.iload_n 1, 1) := by decide +kernel
theorem dX9_readText_67 : decode cX9_readText 67 = .ok (.invokevirtual 151, 3) := by decide +kernel
theorem dX9_readText_70 : decode cX9_readText 70 = .ok (.bipush 49, 2) := by decide +kernel
theorem dX9_readText_72 : decode cX9_readText 72 = .ok (.bipush 57, 2) := by decide +kernel
theorem dX9_readText_74 : decode cX9_readText 74 = .ok (.invokestatic 45, 3) := by decide +kernel
theorem dX9_readText_77 : decode cX9_readText 77 = .ok (.ifCond .ne 5, 3) := by decide +kernel
theorem dX9_readText_80 : decode cX9_readText 80 = .ok (.iload_n 1, 1) := by decide +kernel
theorem dX9_readText_81 : decode cX9_readText 81 = .ok (.ireturn, 1) := by decide +kernel
theorem dX9_readText_82 : decode cX9_readText 82 = .ok (.aload_n 0, 1) := by decide +kernel
theorem dX9_readText_83 : decode cX9_readText 83 = .ok (.iload_n 1, 1) := by decide +kernel
theorem dX9_readText_84 : decode cX9_readText 84 = .ok (.invokevirtual 151, 3) := by decide +kernel
theorem dX9_readText_87 : decode cX9_readText 87 = .ok (.bipush 48, 2) := by decide +kernel
theorem dX9_readText_89 : decode cX9_readText 89 = .ok (.isub, 1) := by decide +kernel
theorem dX9_readText_90 : decode cX9_readText 90 = .ok (.istore 4, 2) := by decide +kernel
theorem dX9_readText_92 : decode cX9_readText 92 = .ok (.iinc 1 1, 3) := by decide +kernel
theorem dX9_readText_95 : decode cX9_readText 95 = .ok (.aload_n 0, 1) := by decide +kernel
theorem dX9_readText_96 : decode cX9_readText 96 = .ok (.iload_n 1, 1) := by decide +kernel
theorem dX9_readText_97 : decode cX9_readText 97 = .ok (.invokevirtual 151, 3) := by decide +kernel
theorem dX9_readText_100 : decode cX9_readText 100 = .ok (.bipush 48, 2) := by decide +kernel
theorem dX9_readText_102 : decode cX9_readText 102 = .ok (.bipush 57, 2) := by decide +kernel
theorem dX9_readText_104 : decode cX9_readText 104 = .ok (.invokestatic 45, 3) := by decide +kernel
theorem dX9_readText_107 : decode cX9_readText 107 = .ok (.ifCond .eq 22, 3) := by decide +kernel
theorem dX9_readText_110 : decode cX9_readText 110 = .ok (.bipush 10, 2) := by decide +kernel
theorem dX9_readText_112 : decode cX9_readText 112 = .ok (.iload 4, 2) := by decide +kernel
theorem dX9_readText_114 : decode cX9_readText 114 = .ok (.imul, 1) := by decide +kernel
theorem dX9_readText_115 : decode cX9_readText 115 = .ok (.aload_n 0, 1) := by decide +kernel
theorem dX9_readText_116 : decode cX9_readText 116 = .ok (.iload_n 1, 1) := by decide +kernel
theorem dX9_readText_117 : decode cX9_readText 117 = .ok (.invokevirtual 151, 3) := by decide +kernel
theorem dX9_readText_120 : decode cX9_readText 120 = .ok (.iadd, 1) := by decide +kernel
theorem dX9_readText_121 : decode cX9_readText 121 = .ok (.bipush 48, 2) := by decide +kernel
theorem dX9_readText_123 : decode cX9_readText 123 = .ok (.isub, 1) := by decide +kernel
theorem dX9_readText_124 : decode cX9_readText 124 = .ok (.istore 4, 2) := by decide +kernel
theorem dX9_readText_126 : decode cX9_readText 126 = .ok (.iinc 1 1, 3) := by decide +kernel
theorem dX9_readText_129 : decode cX9_readText 129 = .ok (.aload_n 0, 1) := by decide +kernel
theorem dX9_readText_130 : decode cX9_readText 130 = .ok (.getfield 31, 3) := by decide +kernel
theorem dX9_readText_133 : decode cX9_readText 133 = .ok (.aload_n 0, 1) := by decide +kernel
theorem dX9_readText_134 : decode cX9_readText 134 = .ok (.getfield 148, 3) := by decide +kernel
theorem dX9_readText_137 : decode cX9_readText 137 = .ok (.iload_n 3, 1) := by decide +kernel
theorem dX9_readText_138 : decode cX9_readText 138 = .ok (.iastore, 1) := by decide +kernel
theorem dX9_readText_139 : decode cX9_readText 139 = .ok (.aload_n 0, 1) := by decide +kernel
theorem dX9_readText_140 : decode cX9_readText 140 = .ok (.getfield 34, 3) := by decide +kernel
theorem dX9_readText_143 : decode cX9_readText 143 = .ok (.aload_n 0, 1) := by decide +kernel
theorem dX9_readText_144 : decode cX9_readText 144 = .ok (.getfield 148, 3) := by decide +kernel
theorem dX9_readText_147 : decode cX9_readText 147 = .ok (.iload 4, 2) := by decide +kernel
theorem dX9_readText_149 : decode cX9_readText 149 = .ok (.iastore, 1) := by decide +kernel
theorem dX9_readText_150 : decode cX9_readText 150 = .ok (.aload_n 0, 1) := by decide +kernel
theorem dX9_readText_151 : decode cX9_readText 151 = .ok (.dup, 1) := by decide +kernel
theorem dX9_readText_152 : decode cX9_readText 152 = .ok (.getfield 148, 3) := by decide +kernel
theorem dX9_readText_155 : decode cX9_readText 155 = .ok (.iconst 1, 1) := by decide +kernel
theorem dX9_readText_156 : decode cX9_readText 156 = .ok (.iadd, 1) := by decide +kernel
theorem dX9_readText_157 : decode cX9_readText 157 = .ok (.putfield 148, 3) := by decide +kernel
theorem dX9_readText_160 : decode cX9_readText 160 = .ok (.iload_n 1, 1) := by decide +kernel
theorem dX9_readText_161 : decode cX9_readText 161 = .ok (.aload_n 0, 1) := by decide +kernel
theorem dX9_readText_162 : decode cX9_readText 162 = .ok (.getfield 145, 3) := by decide +kernel
theorem dX9_readText_165 : decode cX9_readText 165 = .ok (.if_icmp .ne 6, 3) := by decide +kernel
theorem dX9_readText_168 : decode cX9_readText 168 = .ok (.bipush (-5), 2) := by decide +kernel
theorem dX9_readText_170 : decode cX9_readText 170 = .ok (.ireturn, 1) := by decide +kernel
theorem dX9_readText_171 : decode cX9_readText 171 = .ok (.aload_n 0, 1) := by decide +kernel
theorem dX9_readText_172 : decode cX9_readText 172 = .ok (.iload_n 1, 1) := by decide +kernel
theorem dX9_readText_173 : decode cX9_readText 173 = .ok (.invokevirtual 151, 3) := by decide +kernel
theorem dX9_readText_176 : decode cX9_readText 176 = .ok (.bipush 59, 2) := by decide +kernel
theorem dX9_readText_178 : decode cX9_readText 178 = .ok (.if_icmp .eq 5, 3) := by decide +kernel
theorem dX9_readText_181 : decode cX9_readText 181 = .ok (.iload_n 1, 1) := by decide +kernel
theorem dX9_readText_182 : decode cX9_readText 182 = .ok (.ireturn, 1) := by decide +kernel
theorem dX9_readText_183 : decode cX9_readText 183 = .ok (.iinc 1 1, 3) := by decide +kernel
theorem dX9_readText_186 : decode cX9_readText 186 = .ok (.iinc 2 1, 3) := by decide +kernel
theorem dX9_readText_189 : decode cX9_readText 189 = .ok (.goto (-180), 3) := by decide +kernel
theorem dX9_readText_192 : decode cX9_readText 192 = .ok (.iload_n 1, 1) := by decide +kernel
theorem dX9_readText_193 : decode cX9_readText 193 = .ok (.ireturn, 1) := by decide +kernel
theorem dX9_isInRange_0 : decode cX9_isInRange 0 = .ok (.aload_n 0, 1) := by decide +kernel
theorem dX9_isInRange_1 : decode cX9_isInRange 1 = .ok (.getfield 34, 3) := by decide +kernel
theorem dX9_isInRange_4 : decode cX9_isInRange 4 = .ok (.iload_n 1, 1) := by decide +kernel
theorem dX9_isInRange_5 : decode cX9_isInRange 5 = .ok (.iaload, 1) := by decide +kernel
theorem dX9_isInRange_6 : decode cX9_isInRange 6 = .ok (.istore_n 2, 1) := by decide +kernel
theorem dX9_isInRange_7 : decode cX9_isInRange 7 = .ok (.aload_n 0, 1) := by decide +kernel
theorem dX9_isInRange_8 : decode cX9_isInRange 8 = .ok (.getfield 31, 3) := by decide +kernel
theorem dX9_isInRange_11 : decode cX9_isInRange 11 = .ok (.iload_n 1, 1) := by decide +kernel
theorem dX9_isInRange_12 : decode cX9_isInRange 12 = .ok (.iaload, 1) := by decide +kernel
theorem dX9_isInRange_13 : decode cX9_isInRange 13 = .ok (.lookupswitch 68 #[(102, 35), (104, 47), (115, 56)], 35) := by decide +kernel
theorem dX9_isInRange_48 : decode cX9_isInRange 48 = .ok (.iload_n 2, 1) := by decide +kernel
theorem dX9_isInRange_49 : decode cX9_isInRange 49 = .ok (.bipush 60, 2) := by decide +kernel
theorem dX9_isInRange_51 : decode cX9_isInRange 51 = .ok (.if_icmp .gt 7, 3) := by decide +kernel
theorem dX9_isInRange_54 : decode cX9_isInRange 54 = .ok (.iconst 1, 1) := by decide +kernel
theorem dX9_isInRange_55 : decode cX9_isInRange 55 = .ok (.goto 4, 3) := by decide +kernel
theorem dX9_isInRange_58 : decode cX9_isInRange 58 = .ok (.iconst 0, 1) := by decide +kernel
theorem dX9_isInRange_59 : decode cX9_isInRange 59 = .ok (.ireturn, 1) := by decide +kernel
theorem dX9_isInRange_60 : decode cX9_isInRange 60 = .ok (.iload_n 2, 1) := by decide +kernel
theorem dX9_isInRange_61 : decode cX9_isInRange 61 = .ok (.bipush 16, 2) := by decide +kernel
theorem dX9_isInRange_63 : decode cX9_isInRange 63 = .ok (.bipush 95, 2) := by decide +kernel
theorem dX9_isInRange_65 : decode cX9_isInRange 65 = .ok (.invokestatic 45, 3) := by decide +kernel
theorem dX9_isInRange_68 : decode cX9_isInRange 68 = .ok (.ireturn, 1) := by decide +kernel
theorem dX9_isInRange_69 : decode cX9_isInRange 69 = .ok (.iload_n 2, 1) := by decide +kernel
theorem dX9_isInRange_70 : decode cX9_isInRange 70 = .ok (.bipush 30, 2) := by decide +kernel
theorem dX9_isInRange_72 : decode cX9_isInRange 72 = .ok (.if_icmp .gt 7, 3) := by decide +kernel
theorem dX9_isInRange_75 : decode cX9_isInRange 75 = .ok (.iconst 1, 1) := by decide +kernel
theorem dX9_isInRange_76 : decode cX9_isInRange 76 = .ok (.goto 4, 3) := by decide +kernel
theorem dX9_isInRange_79 : decode cX9_isInRange 79 = .ok (.iconst 0, 1) := by decide +kernel
theorem dX9_isInRange_80 : decode cX9_isInRange 80 = .ok (.ireturn, 1) := by decide +kernel
theorem dX9_isInRange_81 : decode cX9_isInRange 81 = .ok (.iconst 1, 1) := by decide +kernel
theorem dX9_isInRange_82 : decode cX9_isInRange 82 = .ok (.ireturn, 1) := by decide +kernel
theorem dX9_readProgram_0 : decode cX9_readProgram 0 = .ok (.aload_n 0, 1) := by decide +kernel
theorem dX9_readProgram_1 : decode cX9_readProgram 1 = .ok (.iload_n 1, 1) := by decide +kernel
theorem dX9_readProgram_2 : decode cX9_readProgram 2 = .ok (.invokevirtual 154, 3) := by decide +kernel
theorem dX9_readProgram_5 : decode cX9_readProgram 5 = .ok (.ifCond .ne 5, 3) := by decide +kernel
theorem dX9_readProgram_8 : decode cX9_readProgram 8 = .ok (.iconst (-1), 1) := by decide +kernel
theorem dX9_readProgram_9 : decode cX9_readProgram 9 = .ok (.ireturn, 1) := by decide +kernel
theorem dX9_readProgram_10 : decode cX9_readProgram 10 = .ok (.aload_n 0, 1) := by decide +kernel
theorem dX9_readProgram_11 : decode cX9_readProgram 11 = .ok (.invokevirtual 157, 3) := by decide +kernel
theorem dX9_readProgram_14 : decode cX9_readProgram 14 = .ok (.istore_n 2, 1) := by decide +kernel
theorem dX9_readProgram_15 : decode cX9_readProgram 15 = .ok (.iload_n 2, 1) := by decide +kernel
theorem dX9_readProgram_16 : decode cX9_readProgram 16 = .ok (.bipush (-5), 2) := by decide +kernel
theorem dX9_readProgram_18 : decode cX9_readProgram 18 = .ok (.if_icmp .eq 8, 3) := by decide +kernel
theorem dX9_readProgram_21 : decode cX9_readProgram 21 = .ok (.bipush (-100), 2) := by decide +kernel
theorem dX9_readProgram_23 : decode cX9_readProgram 23 = .ok (.iload_n 2, 1) := by decide +kernel
theorem dX9_readProgram_24 : decode cX9_readProgram 24 = .ok (.isub, 1) := by decide +kernel
theorem dX9_readProgram_25 : decode cX9_readProgram 25 = .ok (.ireturn, 1) := by decide +kernel
theorem dX9_readProgram_26 : decode cX9_readProgram 26 = .ok (.iconst 0, 1) := by decide +kernel
theorem dX9_readProgram_27 : decode cX9_readProgram 27 = .ok (.istore_n 3, 1) := by decide +kernel
theorem dX9_readProgram_28 : decode cX9_readProgram 28 = .ok (.iload_n 3, 1) := by decide +kernel
theorem dX9_readProgram_29 : decode cX9_readProgram 29 = .ok (.aload_n 0, 1) := by decide +kernel
theorem dX9_readProgram_30 : decode cX9_readProgram 30 = .ok (.getfield 148, 3) := by decide +kernel
theorem dX9_readProgram_33 : decode cX9_readProgram 33 = .ok (.if_icmp .ge 20, 3) := by decide +kernel
theorem dX9_readProgram_36 : decode cX9_readProgram 36 = .ok (.aload_n 0, 1) := by decide +kernel
theorem dX9_readProgram_37 : decode cX9_readProgram 37 = .ok (.iload_n 3, 1) := by decide +kernel
theorem dX9_readProgram_38 : decode cX9_readProgram 38 = .ok (.invokevirtual 160, 3) := by decide +kernel
theorem dX9_readProgram_41 : decode cX9_readProgram 41 = .ok (.ifCond .ne 6, 3) := by decide +kernel
theorem dX9_readProgram_44 : decode cX9_readProgram 44 = .ok (.bipush (-2), 2) := by decide +kernel
theorem dX9_readProgram_46 : decode cX9_readProgram 46 = .ok (.ireturn, 1) := by decide +kernel
theorem dX9_readProgram_47 : decode cX9_readProgram 47 = .ok (.iinc 3 1, 3) := by decide +kernel
theorem dX9_readProgram_50 : decode cX9_readProgram 50 = .ok (.goto (-22), 3) := by decide +kernel
theorem dX9_readProgram_53 : decode cX9_readProgram 53 = .ok (.aload_n 0, 1) := by decide +kernel
theorem dX9_readProgram_54 : decode cX9_readProgram 54 = .ok (.getfield 148, 3) := by decide +kernel
theorem dX9_readProgram_57 : decode cX9_readProgram 57 = .ok (.bipush 12, 2) := by decide +kernel
theorem dX9_readProgram_59 : decode cX9_readProgram 59 = .ok (.if_icmp .le 6, 3) := by decide +kernel
theorem dX9_readProgram_62 : decode cX9_readProgram 62 = .ok (.bipush (-3), 2) := by decide +kernel
theorem dX9_readProgram_64 : decode cX9_readProgram 64 = .ok (.ireturn, 1) := by decide +kernel
theorem dX9_readProgram_65 : decode cX9_readProgram 65 = .ok (.aload_n 0, 1) := by decide +kernel
theorem dX9_readProgram_66 : decode cX9_readProgram 66 = .ok (.iload_n 1, 1) := by decide +kernel
theorem dX9_readProgram_67 : decode cX9_readProgram 67 = .ok (.invokevirtual 79, 3) := by decide +kernel
theorem dX9_readProgram_70 : decode cX9_readProgram 70 = .ok (.ifCond .eq 6, 3) := by decide +kernel
theorem dX9_readProgram_73 : decode cX9_readProgram 73 = .ok (.bipush (-4), 2) := by decide +kernel
theorem dX9_readProgram_75 : decode cX9_readProgram 75 = .ok (.ireturn, 1) := by decide +kernel
theorem dX9_readProgram_76 : decode cX9_readProgram 76 = .ok (.aload_n 0, 1) := by decide +kernel
theorem dX9_readProgram_77 : decode cX9_readProgram 77 = .ok (.invokevirtual 60, 3) := by decide +kernel
theorem dX9_readProgram_80 : decode cX9_readProgram 80 = .ok (.iconst 0, 1) := by decide +kernel
theorem dX9_readProgram_81 : decode cX9_readProgram 81 = .ok (.istore_n 3, 1) := by decide +kernel
theorem dX9_readProgram_82 : decode cX9_readProgram 82 = .ok (.iload_n 3, 1) := by decide +kernel
theorem dX9_readProgram_83 : decode cX9_readProgram 83 = .ok (.aload_n 0, 1) := by decide +kernel
theorem dX9_readProgram_84 : decode cX9_readProgram 84 = .ok (.getfield 148, 3) := by decide +kernel
theorem dX9_readProgram_87 : decode cX9_readProgram 87 = .ok (.if_icmp .ge 39, 3) := by decide +kernel
theorem dX9_readProgram_90 : decode cX9_readProgram 90 = .ok (.aload_n 0, 1) := by decide +kernel
theorem dX9_readProgram_91 : decode cX9_readProgram 91 = .ok (.iload_n 1, 1) := by decide +kernel
theorem dX9_readProgram_92 : decode cX9_readProgram 92 = .ok (.bipush 18, 2) := by decide +kernel
theorem dX9_readProgram_94 : decode cX9_readProgram 94 = .ok (.iload_n 3, 1) := by decide +kernel
theorem dX9_readProgram_95 : decode cX9_readProgram 95 = .ok (.iadd, 1) := by decide +kernel
theorem dX9_readProgram_96 : decode cX9_readProgram 96 = .ok (.aload_n 0, 1) := by decide +kernel
theorem dX9_readProgram_97 : decode cX9_readProgram 97 = .ok (.getfield 31, 3) := by decide +kernel
theorem dX9_readProgram_100 : decode cX9_readProgram 100 = .ok (.iload_n 3, 1) := by decide +kernel
theorem dX9_readProgram_101 : decode cX9_readProgram 101 = .ok (.iaload, 1) := by decide +kernel
theorem dX9_readProgram_102 : decode cX9_readProgram 102 = .ok (.invokevirtual 63, 3) := by decide +kernel
theorem dX9_readProgram_105 : decode cX9_readProgram 105 = .ok (.aload_n 0, 1) := by decide +kernel
theorem dX9_readProgram_106 : decode cX9_readProgram 106 = .ok (.iload_n 1, 1) := by decide +kernel
theorem dX9_readProgram_107 : decode cX9_readProgram 107 = .ok (.bipush 30, 2) := by decide +kernel
theorem dX9_readProgram_109 : decode cX9_readProgram 109 = .ok (.iload_n 3, 1) := by decide +kernel
theorem dX9_readProgram_110 : decode cX9_readProgram 110 = .ok (.iadd, 1) := by decide +kernel
theorem dX9_readProgram_111 : decode cX9_readProgram 111 = .ok (.aload_n 0, 1) := by decide +kernel
theorem dX9_readProgram_112 : decode cX9_readProgram 112 = .ok (.getfield 34, 3) := by decide +kernel
theorem dX9_readProgram_115 : decode cX9_readProgram 115 = .ok (.iload_n 3, 1) := by decide +kernel
theorem dX9_readProgram_116 : decode cX9_readProgram 116 = .ok (.iaload, 1) := by decide +kernel
theorem dX9_readProgram_117 : decode cX9_readProgram 117 = .ok (.invokevirtual 63, 3) := by decide +kernel
theorem dX9_readProgram_120 : decode cX9_readProgram 120 = .ok (.iinc 3 1, 3) := by decide +kernel
theorem dX9_readProgram_123 : decode cX9_readProgram 123 = .ok (.goto (-41), 3) := by decide +kernel
theorem dX9_readProgram_126 : decode cX9_readProgram 126 = .ok (.aload_n 0, 1) := by decide +kernel
theorem dX9_readProgram_127 : decode cX9_readProgram 127 = .ok (.iload_n 1, 1) := by decide +kernel
theorem dX9_readProgram_128 : decode cX9_readProgram 128 = .ok (.bipush 15, 2) := by decide +kernel
theorem dX9_readProgram_130 : decode cX9_readProgram 130 = .ok (.aload_n 0, 1) := by decide +kernel
theorem dX9_readProgram_131 : decode cX9_readProgram 131 = .ok (.getfield 148, 3) := by decide +kernel
theorem dX9_readProgram_134 : decode cX9_readProgram 134 = .ok (.invokevirtual 63, 3) := by decide +kernel
theorem dX9_readProgram_137 : decode cX9_readProgram 137 = .ok (.aload_n 0, 1) := by decide +kernel
theorem dX9_readProgram_138 : decode cX9_readProgram 138 = .ok (.getfield 148, 3) := by decide +kernel
theorem dX9_readProgram_141 : decode cX9_readProgram 141 = .ok (.ireturn, 1) := by decide +kernel
theorem dX9_start_0 : decode cX9_start 0 = .ok (.aload_n 0, 1) := by decide +kernel
theorem dX9_start_1 : decode cX9_start 1 = .ok (.iload_n 1, 1) := by decide +kernel
theorem dX9_start_2 : decode cX9_start 2 = .ok (.invokevirtual 154, 3) := by decide +kernel
theorem dX9_start_5 : decode cX9_start 5 = .ok (.ifCond .ne 5, 3) := by decide +kernel
theorem dX9_start_8 : decode cX9_start 8 = .ok (.iconst (-1), 1) := by decide +kernel
theorem dX9_start_9 : decode cX9_start 9 = .ok (.ireturn, 1) := by decide +kernel
theorem dX9_start_10 : decode cX9_start 10 = .ok (.aload_n 0, 1) := by decide +kernel
theorem dX9_start_11 : decode cX9_start 11 = .ok (.getfield 7, 3) := by decide +kernel
theorem dX9_start_14 : decode cX9_start 14 = .ok (.iconst 1, 1) := by decide +kernel
theorem dX9_start_15 : decode cX9_start 15 = .ok (.iaload, 1) := by decide +kernel
theorem dX9_start_16 : decode cX9_start 16 = .ok (.ifCond .eq 33, 3) := by decide +kernel
theorem dX9_start_19 : decode cX9_start 19 = .ok (.aload_n 0, 1) := by decide +kernel
theorem dX9_start_20 : decode cX9_start 20 = .ok (.iload_n 1, 1) := by decide +kernel
theorem dX9_start_21 : decode cX9_start 21 = .ok (.bipush 15, 2) := by decide +kernel
theorem dX9_start_23 : decode cX9_start 23 = .ok (.invokevirtual 49, 3) := by decide +kernel
theorem dX9_start_26 : decode cX9_start 26 = .ok (.ifCond .eq 23, 3) := by decide +kernel
theorem dX9_start_29 : decode cX9_start 29 = .ok (.aload_n 0, 1) := by decide +kernel
theorem dX9_start_30 : decode cX9_start 30 = .ok (.iload_n 1, 1) := by decide +kernel
theorem dX9_start_31 : decode cX9_start 31 = .ok (.bipush 9, 2) := by decide +kernel
theorem dX9_start_33 : decode cX9_start 33 = .ok (.invokevirtual 49, 3) := by decide +kernel
theorem dX9_start_36 : decode cX9_start 36 = .ok (.ifCond .ne 13, 3) := by decide +kernel
theorem dX9_start_39 : decode cX9_start 39 = .ok (.aload_n 0, 1) := by decide +kernel
theorem dX9_start_40 : decode cX9_start 40 = .ok (.iload_n 1, 1) := by decide +kernel
theorem dX9_start_41 : decode cX9_start 41 = .ok (.bipush 13, 2) := by decide +kernel
theorem dX9_start_43 : decode cX9_start 43 = .ok (.invokevirtual 49, 3) := by decide +kernel
theorem dX9_start_46 : decode cX9_start 46 = .ok (.ifCond .ne 6, 3) := by decide +kernel
theorem dX9_start_49 : decode cX9_start 49 = .ok (.bipush (-4), 2) := by decide +kernel
theorem dX9_start_51 : decode cX9_start 51 = .ok (.ireturn, 1) := by decide +kernel
theorem dX9_start_52 : decode cX9_start 52 = .ok (.aload_n 0, 1) := by decide +kernel
theorem dX9_start_53 : decode cX9_start 53 = .ok (.invokevirtual 60, 3) := by decide +kernel
theorem dX9_start_56 : decode cX9_start 56 = .ok (.aload_n 0, 1) := by decide +kernel
theorem dX9_start_57 : decode cX9_start 57 = .ok (.iload_n 1, 1) := by decide +kernel
theorem dX9_start_58 : decode cX9_start 58 = .ok (.bipush 9, 2) := by decide +kernel
theorem dX9_start_60 : decode cX9_start 60 = .ok (.iconst 1, 1) := by decide +kernel
theorem dX9_start_61 : decode cX9_start 61 = .ok (.invokevirtual 63, 3) := by decide +kernel
theorem dX9_start_64 : decode cX9_start 64 = .ok (.aload_n 0, 1) := by decide +kernel
theorem dX9_start_65 : decode cX9_start 65 = .ok (.iload_n 1, 1) := by decide +kernel
theorem dX9_start_66 : decode cX9_start 66 = .ok (.bipush 13, 2) := by decide +kernel
theorem dX9_start_68 : decode cX9_start 68 = .ok (.iconst 2, 1) := by decide +kernel
theorem dX9_start_69 : decode cX9_start 69 = .ok (.invokevirtual 63, 3) := by decide +kernel
theorem dX9_start_72 : decode cX9_start 72 = .ok (.aload_n 0, 1) := by decide +kernel
theorem dX9_start_73 : decode cX9_start 73 = .ok (.iload_n 1, 1) := by decide +kernel
theorem dX9_start_74 : decode cX9_start 74 = .ok (.iconst 0, 1) := by decide +kernel
theorem dX9_start_75 : decode cX9_start 75 = .ok (.invokevirtual 114, 3) := by decide +kernel
theorem dX9_start_78 : decode cX9_start 78 = .ok (.aload_n 0, 1) := by decide +kernel
theorem dX9_start_79 : decode cX9_start 79 = .ok (.iload_n 1, 1) := by decide +kernel
theorem dX9_start_80 : decode cX9_start 80 = .ok (.bipush 15, 2) := by decide +kernel
theorem dX9_start_82 : decode cX9_start 82 = .ok (.invokevirtual 49, 3) := by decide +kernel
theorem dX9_start_85 : decode cX9_start 85 = .ok (.ireturn, 1) := by decide +kernel
theorem dX9_stop_0 : decode cX9_stop 0 = .ok (.aload_n 0, 1) := by decide +kernel
theorem dX9_stop_1 : decode cX9_stop 1 = .ok (.iload_n 1, 1) := by decide +kernel
theorem dX9_stop_2 : decode cX9_stop 2 = .ok (.invokevirtual 154, 3) := by decide +kernel
theorem dX9_stop_5 : decode cX9_stop 5 = .ok (.ifCond .ne 7, 3) := by decide +kernel
theorem dX9_stop_8 : decode cX9_stop 8 = .ok (.iconst (-1), 1) := by decide +kernel
theorem dX9_stop_9 : decode cX9_stop 9 = .ok (.goto 19, 3) := by decide +kernel
theorem dX9_stop_12 : decode cX9_stop 12 = .ok (.aload_n 0, 1) := by decide +kernel
theorem dX9_stop_13 : decode cX9_stop 13 = .ok (.iload_n 1, 1) := by decide +kernel
theorem dX9_stop_14 : decode cX9_stop 14 = .ok (.bipush 9, 2) := by decide +kernel
theorem dX9_stop_16 : decode cX9_stop 16 = .ok (.invokevirtual 49, 3) := by decide +kernel
theorem dX9_stop_19 : decode cX9_stop 19 = .ok (.ifCond .ne 8, 3) := by decide +kernel
theorem dX9_stop_22 : decode cX9_stop 22 = .ok (.bipush (-5), 2) := by decide +kernel
theorem dX9_stop_24 : decode cX9_stop 24 = .ok (.goto 4, 3) := by decide +kernel
theorem dX9_stop_27 : decode cX9_stop 27 = .ok (.iconst 0, 1) := by decide +kernel
theorem dX9_stop_28 : decode cX9_stop 28 = .ok (.istore_n 2, 1) := by decide +kernel
theorem dX9_stop_29 : decode cX9_stop 29 = .ok (.iload_n 2, 1) := by decide +kernel
theorem dX9_stop_30 : decode cX9_stop 30 = .ok (.ifCond .ge 5, 3) := by decide +kernel
theorem dX9_stop_33 : decode cX9_stop 33 = .ok (.iload_n 2, 1) := by decide +kernel
theorem dX9_stop_34 : decode cX9_stop 34 = .ok (.ireturn, 1) := by decide +kernel
theorem dX9_stop_35 : decode cX9_stop 35 = .ok (.aload_n 0, 1) := by decide +kernel
theorem dX9_stop_36 : decode cX9_stop 36 = .ok (.invokevirtual 60, 3) := by decide +kernel
theorem dX9_stop_39 : decode cX9_stop 39 = .ok (.aload_n 0, 1) := by decide +kernel
theorem dX9_stop_40 : decode cX9_stop 40 = .ok (.iload_n 1, 1) := by decide +kernel
theorem dX9_stop_41 : decode cX9_stop 41 = .ok (.bipush 9, 2) := by decide +kernel
theorem dX9_stop_43 : decode cX9_stop 43 = .ok (.iconst 0, 1) := by decide +kernel
theorem dX9_stop_44 : decode cX9_stop 44 = .ok (.invokevirtual 63, 3) := by decide +kernel
theorem dX9_stop_47 : decode cX9_stop 47 = .ok (.aload_n 0, 1) := by decide +kernel
theorem dX9_stop_48 : decode cX9_stop 48 = .ok (.iload_n 1, 1) := by decide +kernel
theorem dX9_stop_49 : decode cX9_stop 49 = .ok (.bipush 10, 2) := by decide +kernel
theorem dX9_stop_51 : decode cX9_stop 51 = .ok (.invokevirtual 49, 3) := by decide +kernel
theorem dX9_stop_54 : decode cX9_stop 54 = .ok (.ireturn, 1) := by decide +kernel
theorem dX9_bail_0 : decode cX9_bail 0 = .ok (.aload_n 0, 1) := by decide +kernel
theorem dX9_bail_1 : decode cX9_bail 1 = .ok (.iload_n 1, 1) := by decide +kernel
theorem dX9_bail_2 : decode cX9_bail 2 = .ok (.invokevirtual 154, 3) := by decide +kernel
theorem dX9_bail_5 : decode cX9_bail 5 = .ok (.ifCond .ne 7, 3) := by decide +kernel
theorem dX9_bail_8 : decode cX9_bail 8 = .ok (.iconst (-1), 1) := by decide +kernel
theorem dX9_bail_9 : decode cX9_bail 9 = .ok (.goto 32, 3) := by decide +kernel
theorem dX9_bail_12 : decode cX9_bail 12 = .ok (.aload_n 0, 1) := by decide +kernel
theorem dX9_bail_13 : decode cX9_bail 13 = .ok (.iload_n 1, 1) := by decide +kernel
theorem dX9_bail_14 : decode cX9_bail 14 = .ok (.invokevirtual 79, 3) := by decide +kernel
theorem dX9_bail_17 : decode cX9_bail 17 = .ok (.ifCond .eq 8, 3) := by decide +kernel
theorem dX9_bail_20 : decode cX9_bail 20 = .ok (.bipush (-4), 2) := by decide +kernel
theorem dX9_bail_22 : decode cX9_bail 22 = .ok (.goto 19, 3) := by decide +kernel
theorem dX9_bail_25 : decode cX9_bail 25 = .ok (.aload_n 0, 1) := by decide +kernel
theorem dX9_bail_26 : decode cX9_bail 26 = .ok (.iload_n 1, 1) := by decide +kernel
theorem dX9_bail_27 : decode cX9_bail 27 = .ok (.bipush 11, 2) := by decide +kernel
theorem dX9_bail_29 : decode cX9_bail 29 = .ok (.invokevirtual 49, 3) := by decide +kernel
theorem dX9_bail_32 : decode cX9_bail 32 = .ok (.ifCond .ne 8, 3) := by decide +kernel
theorem dX9_bail_35 : decode cX9_bail 35 = .ok (.bipush (-5), 2) := by decide +kernel
theorem dX9_bail_37 : decode cX9_bail 37 = .ok (.goto 4, 3) := by decide +kernel
theorem dX9_bail_40 : decode cX9_bail 40 = .ok (.iconst 0, 1) := by decide +kernel
theorem dX9_bail_41 : decode cX9_bail 41 = .ok (.istore_n 2, 1) := by decide +kernel
theorem dX9_bail_42 : decode cX9_bail 42 = .ok (.iload_n 2, 1) := by decide +kernel
theorem dX9_bail_43 : decode cX9_bail 43 = .ok (.ifCond .ge 5, 3) := by decide +kernel
theorem dX9_bail_46 : decode cX9_bail 46 = .ok (.iload_n 2, 1) := by decide +kernel
theorem dX9_bail_47 : decode cX9_bail 47 = .ok (.ireturn, 1) := by decide +kernel
theorem dX9_bail_48 : decode cX9_bail 48 = .ok (.aload_n 0, 1) := by decide +kernel
theorem dX9_bail_49 : decode cX9_bail 49 = .ok (.invokevirtual 60, 3) := by decide +kernel
theorem dX9_bail_52 : decode cX9_bail 52 = .ok (.aload_n 0, 1) := by decide +kernel
theorem dX9_bail_53 : decode cX9_bail 53 = .ok (.iload_n 1, 1) := by decide +kernel
theorem dX9_bail_54 : decode cX9_bail 54 = .ok (.bipush 11, 2) := by decide +kernel
theorem dX9_bail_56 : decode cX9_bail 56 = .ok (.invokevirtual 49, 3) := by decide +kernel
theorem dX9_bail_59 : decode cX9_bail 59 = .ok (.istore_n 3, 1) := by decide +kernel
theorem dX9_bail_60 : decode cX9_bail 60 = .ok (.aload_n 0, 1) := by decide +kernel
theorem dX9_bail_61 : decode cX9_bail 61 = .ok (.iload_n 1, 1) := by decide +kernel
theorem dX9_bail_62 : decode cX9_bail 62 = .ok (.bipush 11, 2) := by decide +kernel
theorem dX9_bail_64 : decode cX9_bail 64 = .ok (.iconst 0, 1) := by decide +kernel
theorem dX9_bail_65 : decode cX9_bail 65 = .ok (.invokevirtual 63, 3) := by decide +kernel
theorem dX9_bail_68 : decode cX9_bail 68 = .ok (.aload_n 0, 1) := by decide +kernel
theorem dX9_bail_69 : decode cX9_bail 69 = .ok (.iload_n 1, 1) := by decide +kernel
theorem dX9_bail_70 : decode cX9_bail 70 = .ok (.bipush 12, 2) := by decide +kernel
theorem dX9_bail_72 : decode cX9_bail 72 = .ok (.iconst 0, 1) := by decide +kernel
theorem dX9_bail_73 : decode cX9_bail 73 = .ok (.invokevirtual 63, 3) := by decide +kernel
theorem dX9_bail_76 : decode cX9_bail 76 = .ok (.iload_n 3, 1) := by decide +kernel
theorem dX9_bail_77 : decode cX9_bail 77 = .ok (.ireturn, 1) := by decide +kernel
theorem dX9_openDoor_0 : decode cX9_openDoor 0 = .ok (.aload_n 0, 1) := by decide +kernel
theorem dX9_openDoor_1 : decode cX9_openDoor 1 = .ok (.iload_n 1, 1) := by decide +kernel
theorem dX9_openDoor_2 : decode cX9_openDoor 2 = .ok (.invokevirtual 154, 3) := by decide +kernel
theorem dX9_openDoor_5 : decode cX9_openDoor 5 = .ok (.ifCond .ne 7, 3) := by decide +kernel
theorem dX9_openDoor_8 : decode cX9_openDoor 8 = .ok (.iconst (-1), 1) := by decide +kernel
theorem dX9_openDoor_9 : decode cX9_openDoor 9 = .ok (.goto 35, 3) := by decide +kernel
theorem dX9_openDoor_12 : decode cX9_openDoor 12 = .ok (.aload_n 0, 1) := by decide +kernel
theorem dX9_openDoor_13 : decode cX9_openDoor 13 = .ok (.iload_n 1, 1) := by decide +kernel
theorem dX9_openDoor_14 : decode cX9_openDoor 14 = .ok (.bipush 13, 2) := by decide +kernel
theorem dX9_openDoor_16 : decode cX9_openDoor 16 = .ok (.invokevirtual 49, 3) := by decide +kernel
theorem dX9_openDoor_19 : decode cX9_openDoor 19 = .ok (.iconst 2, 1) := by decide +kernel
theorem dX9_openDoor_20 : decode cX9_openDoor 20 = .ok (.if_icmp .ne 8, 3) := by decide +kernel
theorem dX9_openDoor_23 : decode cX9_openDoor 23 = .ok (.bipush (-4), 2) := by decide +kernel
theorem dX9_openDoor_25 : decode cX9_openDoor 25 = .ok (.goto 19, 3) := by decide +kernel
theorem dX9_openDoor_28 : decode cX9_openDoor 28 = .ok (.aload_n 0, 1) := by decide +kernel
theorem dX9_openDoor_29 : decode cX9_openDoor 29 = .ok (.iload_n 1, 1) := by decide +kernel
theorem dX9_openDoor_30 : decode cX9_openDoor 30 = .ok (.bipush 13, 2) := by decide +kernel
theorem dX9_openDoor_32 : decode cX9_openDoor 32 = .ok (.invokevirtual 49, 3) := by decide +kernel
theorem dX9_openDoor_35 : decode cX9_openDoor 35 = .ok (.ifCond .ne 8, 3) := by decide +kernel
theorem dX9_openDoor_38 : decode cX9_openDoor 38 = .ok (.bipush (-5), 2) := by decide +kernel
theorem dX9_openDoor_40 : decode cX9_openDoor 40 = .ok (.goto 4, 3) := by decide +kernel
theorem dX9_openDoor_43 : decode cX9_openDoor 43 = .ok (.iconst 0, 1) := by decide +kernel
theorem dX9_openDoor_44 : decode cX9_openDoor 44 = .ok (.istore_n 2, 1) := by decide +kernel
theorem dX9_openDoor_45 : decode cX9_openDoor 45 = .ok (.iload_n 2, 1) := by decide +kernel
theorem dX9_openDoor_46 : decode cX9_openDoor 46 = .ok (.ifCond .ge 5, 3) := by decide +kernel
theorem dX9_openDoor_49 : decode cX9_openDoor 49 = .ok (.iload_n 2, 1) := by decide +kernel
theorem dX9_openDoor_50 : decode cX9_openDoor 50 = .ok (.ireturn, 1) := by decide +kernel
theorem dX9_openDoor_51 : decode cX9_openDoor 51 = .ok (.aload_n 0, 1) := by decide +kernel
theorem dX9_openDoor_52 : decode cX9_openDoor 52 = .ok (.invokevirtual 60, 3) := by decide +kernel
theorem dX9_openDoor_55 : decode cX9_openDoor 55 = .ok (.aload_n 0, 1) := by decide +kernel
theorem dX9_openDoor_56 : decode cX9_openDoor 56 = .ok (.iload_n 1, 1) := by decide +kernel
theorem dX9_openDoor_57 : decode cX9_openDoor 57 = .ok (.bipush 13, 2) := by decide +kernel
theorem dX9_openDoor_59 : decode cX9_openDoor 59 = .ok (.iconst 0, 1) := by decide +kernel
theorem dX9_openDoor_60 : decode cX9_openDoor 60 = .ok (.invokevirtual 63, 3) := by decide +kernel
theorem dX9_openDoor_63 : decode cX9_openDoor 63 = .ok (.aload_n 0, 1) := by decide +kernel
theorem dX9_openDoor_64 : decode cX9_openDoor 64 = .ok (.iload_n 1, 1) := by decide +kernel
theorem dX9_openDoor_65 : decode cX9_openDoor 65 = .ok (.invokevirtual 68, 3) := by decide +kernel
theorem dX9_openDoor_68 : decode cX9_openDoor 68 = .ok (.ireturn, 1) := by decide +kernel
theorem dX9_closeDoor_0 : decode cX9_closeDoor 0 = .ok (.aload_n 0, 1) := by decide +kernel
theorem dX9_closeDoor_1 : decode cX9_closeDoor 1 = .ok (.iload_n 1, 1) := by decide +kernel
theorem dX9_closeDoor_2 : decode cX9_closeDoor 2 = .ok (.invokevirtual 154, 3) := by decide +kernel
theorem dX9_closeDoor_5 : decode cX9_closeDoor 5 = .ok (.ifCond .ne 7, 3) := by decide +kernel
theorem dX9_closeDoor_8 : decode cX9_closeDoor 8 = .ok (.iconst (-1), 1) := by decide +kernel
theorem dX9_closeDoor_9 : decode cX9_closeDoor 9 = .ok (.goto 19, 3) := by decide +kernel
theorem dX9_closeDoor_12 : decode cX9_closeDoor 12 = .ok (.aload_n 0, 1) := by decide +kernel
theorem dX9_closeDoor_13 : decode cX9_closeDoor 13 = .ok (.iload_n 1, 1) := by decide +kernel
theorem dX9_closeDoor_14 : decode cX9_closeDoor 14 = .ok (.bipush 13, 2) := by decide +kernel
theorem dX9_closeDoor_16 : decode cX9_closeDoor 16 = .ok (.invokevirtual 49, 3) := by decide +kernel
theorem dX9_closeDoor_19 : decode cX9_closeDoor 19 = .ok (.ifCond .eq 8, 3) := by decide +kernel
theorem dX9_closeDoor_22 : decode cX9_closeDoor 22 = .ok (.bipush (-5), 2) := by decide +kernel
theorem dX9_closeDoor_24 : decode cX9_closeDoor 24 = .ok (.goto 4, 3) := by decide +kernel
theorem dX9_closeDoor_27 : decode cX9_closeDoor 27 = .ok (.iconst 0, 1) := by decide +kernel
theorem dX9_closeDoor_28 : decode cX9_closeDoor 28 = .ok (.istore_n 2, 1) := by decide +kernel
theorem dX9_closeDoor_29 : decode cX9_closeDoor 29 = .ok (.iload_n 2, 1) := by decide +kernel
theorem dX9_closeDoor_30 : decode cX9_closeDoor 30 = .ok (.ifCond .ge 5, 3) := by decide +kernel
theorem dX9_closeDoor_33 : decode cX9_closeDoor 33 = .ok (.iload_n 2, 1) := by decide +kernel
theorem dX9_closeDoor_34 : decode cX9_closeDoor 34 = .ok (.ireturn, 1) := by decide +kernel
theorem dX9_closeDoor_35 : decode cX9_closeDoor 35 = .ok (.aload_n 0, 1) := by decide +kernel
theorem dX9_closeDoor_36 : decode cX9_closeDoor 36 = .ok (.invokevirtual 60, 3) := by decide +kernel
theorem dX9_closeDoor_39 : decode cX9_closeDoor 39 = .ok (.aload_n 0, 1) := by decide +kernel
theorem dX9_closeDoor_40 : decode cX9_closeDoor 40 = .ok (.iload_n 1, 1) := by decide +kernel
theorem dX9_closeDoor_41 : decode cX9_closeDoor 41 = .ok (.bipush 13, 2) := by decide +kernel
theorem dX9_closeDoor_43 : decode cX9_closeDoor 43 = .ok (.iconst 1, 1) := by decide +kernel
theorem dX9_closeDoor_44 : decode cX9_closeDoor 44 = .ok (.invokevirtual 63, 3) := by decide +kernel
theorem dX9_closeDoor_47 : decode cX9_closeDoor 47 = .ok (.iconst 1, 1) := by decide +kernel
theorem dX9_closeDoor_48 : decode cX9_closeDoor 48 = .ok (.ireturn, 1) := by decide +kernel
theorem dX9_askOf_0 : decode cX9_askOf 0 = .ok (.iload_n 2, 1) := by decide +kernel
theorem dX9_askOf_1 : decode cX9_askOf 1 = .ok (.aload_n 0, 1) := by decide +kernel
theorem dX9_askOf_2 : decode cX9_askOf 2 = .ok (.iload_n 1, 1) := by decide +kernel
theorem dX9_askOf_3 : decode cX9_askOf 3 = .ok (.iconst 1, 1) := by decide +kernel
theorem dX9_askOf_4 : decode cX9_askOf 4 = .ok (.invokevirtual 49, 3) := by decide +kernel
theorem dX9_askOf_7 : decode cX9_askOf 7 = .ok (.imul, 1) := by decide +kernel
theorem dX9_askOf_8 : decode cX9_askOf 8 = .ok (.aload_n 0, 1) := by decide +kernel
theorem dX9_askOf_9 : decode cX9_askOf 9 = .ok (.iload_n 1, 1) := by decide +kernel
theorem dX9_askOf_10 : decode cX9_askOf 10 = .ok (.invokevirtual 79, 3) := by decide +kernel
theorem dX9_askOf_13 : decode cX9_askOf 13 = .ok (.ifCond .eq 7, 3) := by decide +kernel
theorem dX9_askOf_16 : decode cX9_askOf 16 = .ok (.iconst 2, 1) := by decide +kernel
theorem dX9_askOf_17 : decode cX9_askOf 17 = .ok (.goto 4, 3) := by decide +kernel
theorem dX9_askOf_20 : decode cX9_askOf 20 = .ok (.iconst 1, 1) := by decide +kernel
theorem dX9_askOf_21 : decode cX9_askOf 21 = .ok (.imul, 1) := by decide +kernel
theorem dX9_askOf_22 : decode cX9_askOf 22 = .ok (.ireturn, 1) := by decide +kernel
theorem dX9_hasToLend_0 : decode cX9_hasToLend 0 = .ok (.aload_n 0, 1) := by decide +kernel
theorem dX9_hasToLend_1 : decode cX9_hasToLend 1 = .ok (.iload_n 1, 1) := by decide +kernel
theorem dX9_hasToLend_2 : decode cX9_hasToLend 2 = .ok (.iconst 0, 1) := by decide +kernel
theorem dX9_hasToLend_3 : decode cX9_hasToLend 3 = .ok (.invokevirtual 49, 3) := by decide +kernel
theorem dX9_hasToLend_6 : decode cX9_hasToLend 6 = .ok (.aload_n 0, 1) := by decide +kernel
theorem dX9_hasToLend_7 : decode cX9_hasToLend 7 = .ok (.iload_n 1, 1) := by decide +kernel
theorem dX9_hasToLend_8 : decode cX9_hasToLend 8 = .ok (.invokevirtual 56, 3) := by decide +kernel
theorem dX9_hasToLend_11 : decode cX9_hasToLend 11 = .ok (.isub, 1) := by decide +kernel
theorem dX9_hasToLend_12 : decode cX9_hasToLend 12 = .ok (.iload_n 2, 1) := by decide +kernel
theorem dX9_hasToLend_13 : decode cX9_hasToLend 13 = .ok (.if_icmp .lt 7, 3) := by decide +kernel
theorem dX9_hasToLend_16 : decode cX9_hasToLend 16 = .ok (.iconst 1, 1) := by decide +kernel
theorem dX9_hasToLend_17 : decode cX9_hasToLend 17 = .ok (.goto 4, 3) := by decide +kernel
theorem dX9_hasToLend_20 : decode cX9_hasToLend 20 = .ok (.iconst 0, 1) := by decide +kernel
theorem dX9_hasToLend_21 : decode cX9_hasToLend 21 = .ok (.ireturn, 1) := by decide +kernel
theorem dX9_changePrice_0 : decode cX9_changePrice 0 = .ok (.aload_n 0, 1) := by decide +kernel
theorem dX9_changePrice_1 : decode cX9_changePrice 1 = .ok (.iload_n 1, 1) := by decide +kernel
theorem dX9_changePrice_2 : decode cX9_changePrice 2 = .ok (.iconst 1, 1) := by decide +kernel
theorem dX9_changePrice_3 : decode cX9_changePrice 3 = .ok (.invokevirtual 49, 3) := by decide +kernel
theorem dX9_changePrice_6 : decode cX9_changePrice 6 = .ok (.iload_n 2, 1) := by decide +kernel
theorem dX9_changePrice_7 : decode cX9_changePrice 7 = .ok (.iadd, 1) := by decide +kernel
theorem dX9_changePrice_8 : decode cX9_changePrice 8 = .ok (.istore_n 3, 1) := by decide +kernel
theorem dX9_changePrice_9 : decode cX9_changePrice 9 = .ok (.aload_n 0, 1) := by decide +kernel
theorem dX9_changePrice_10 : decode cX9_changePrice 10 = .ok (.iload_n 1, 1) := by decide +kernel
theorem dX9_changePrice_11 : decode cX9_changePrice 11 = .ok (.iconst 1, 1) := by decide +kernel
theorem dX9_changePrice_12 : decode cX9_changePrice 12 = .ok (.iload_n 3, 1) := by decide +kernel
theorem dX9_changePrice_13 : decode cX9_changePrice 13 = .ok (.iconst 1, 1) := by decide +kernel
theorem dX9_changePrice_14 : decode cX9_changePrice 14 = .ok (.if_icmp .ge 7, 3) := by decide +kernel
theorem dX9_changePrice_17 : decode cX9_changePrice 17 = .ok (.iconst 1, 1) := by decide +kernel
theorem dX9_changePrice_18 : decode cX9_changePrice 18 = .ok (.goto 15, 3) := by decide +kernel
theorem dX9_changePrice_21 : decode cX9_changePrice 21 = .ok (.iload_n 3, 1) := by decide +kernel
theorem dX9_changePrice_22 : decode cX9_changePrice 22 = .ok (.bipush 50, 2) := by decide +kernel
theorem dX9_changePrice_24 : decode cX9_changePrice 24 = .ok (.if_icmp .le 8, 3) := by decide +kernel
theorem dX9_changePrice_27 : decode cX9_changePrice 27 = .ok (.bipush 50, 2) := by decide +kernel
theorem dX9_changePrice_29 : decode cX9_changePrice 29 = .ok (.goto 4, 3) := by decide +kernel
theorem dX9_changePrice_32 : decode cX9_changePrice 32 = .ok (.iload_n 3, 1) := by decide +kernel
theorem dX9_changePrice_33 : decode cX9_changePrice 33 = .ok (.invokevirtual 63, 3) := by decide +kernel
theorem dX9_changePrice_36 : decode cX9_changePrice 36 = .ok (.return_, 1) := by decide +kernel
theorem dX9_deals_0 : decode cX9_deals 0 = .ok (.sipush 351, 3) := by decide +kernel
theorem dX9_deals_3 : decode cX9_deals 3 = .ok (.iconst 5, 1) := by decide +kernel
theorem dX9_deals_4 : decode cX9_deals 4 = .ok (.aload_n 0, 1) := by decide +kernel
theorem dX9_deals_5 : decode cX9_deals 5 = .ok (.getfield 7, 3) := by decide +kernel
theorem dX9_deals_8 : decode cX9_deals 8 = .ok (.bipush 8, 2) := by decide +kernel
theorem dX9_deals_10 : decode cX9_deals 10 = .ok (.iaload, 1) := by decide +kernel
theorem dX9_deals_11 : decode cX9_deals 11 = .ok (.imul, 1) := by decide +kernel
theorem dX9_deals_12 : decode cX9_deals 12 = .ok (.iadd, 1) := by decide +kernel
theorem dX9_deals_13 : decode cX9_deals 13 = .ok (.istore 6, 2) := by decide +kernel
theorem dX9_deals_15 : decode cX9_deals 15 = .ok (.aload_n 0, 1) := by decide +kernel
theorem dX9_deals_16 : decode cX9_deals 16 = .ok (.getfield 7, 3) := by decide +kernel
theorem dX9_deals_19 : decode cX9_deals 19 = .ok (.iload 6, 2) := by decide +kernel
theorem dX9_deals_21 : decode cX9_deals 21 = .ok (.iconst 0, 1) := by decide +kernel
theorem dX9_deals_22 : decode cX9_deals 22 = .ok (.iadd, 1) := by decide +kernel
theorem dX9_deals_23 : decode cX9_deals 23 = .ok (.iload_n 2, 1) := by decide +kernel
theorem dX9_deals_24 : decode cX9_deals 24 = .ok (.iastore, 1) := by decide +kernel
theorem dX9_deals_25 : decode cX9_deals 25 = .ok (.aload_n 0, 1) := by decide +kernel
theorem dX9_deals_26 : decode cX9_deals 26 = .ok (.getfield 7, 3) := by decide +kernel
theorem dX9_deals_29 : decode cX9_deals 29 = .ok (.iload 6, 2) := by decide +kernel
theorem dX9_deals_31 : decode cX9_deals 31 = .ok (.iconst 1, 1) := by decide +kernel
theorem dX9_deals_32 : decode cX9_deals 32 = .ok (.iadd, 1) := by decide +kernel
theorem dX9_deals_33 : decode cX9_deals 33 = .ok (.iload_n 1, 1) := by decide +kernel
theorem dX9_deals_34 : decode cX9_deals 34 = .ok (.iastore, 1) := by decide +kernel
theorem dX9_deals_35 : decode cX9_deals 35 = .ok (.aload_n 0, 1) := by decide +kernel
theorem dX9_deals_36 : decode cX9_deals 36 = .ok (.getfield 7, 3) := by decide +kernel
theorem dX9_deals_39 : decode cX9_deals 39 = .ok (.iload 6, 2) := by decide +kernel
theorem dX9_deals_41 : decode cX9_deals 41 = .ok (.iconst 2, 1) := by decide +kernel
theorem dX9_deals_42 : decode cX9_deals 42 = .ok (.iadd, 1) := by decide +kernel
theorem dX9_deals_43 : decode cX9_deals 43 = .ok (.iload_n 3, 1) := by decide +kernel
theorem dX9_deals_44 : decode cX9_deals 44 = .ok (.iastore, 1) := by decide +kernel
theorem dX9_deals_45 : decode cX9_deals 45 = .ok (.aload_n 0, 1) := by decide +kernel
theorem dX9_deals_46 : decode cX9_deals 46 = .ok (.getfield 7, 3) := by decide +kernel
theorem dX9_deals_49 : decode cX9_deals 49 = .ok (.iload 6, 2) := by decide +kernel
theorem dX9_deals_51 : decode cX9_deals 51 = .ok (.iconst 3, 1) := by decide +kernel
theorem dX9_deals_52 : decode cX9_deals 52 = .ok (.iadd, 1) := by decide +kernel
theorem dX9_deals_53 : decode cX9_deals 53 = .ok (.iload 4, 2) := by decide +kernel
theorem dX9_deals_55 : decode cX9_deals 55 = .ok (.iastore, 1) := by decide +kernel
theorem dX9_deals_56 : decode cX9_deals 56 = .ok (.aload_n 0, 1) := by decide +kernel
theorem dX9_deals_57 : decode cX9_deals 57 = .ok (.getfield 7, 3) := by decide +kernel
theorem dX9_deals_60 : decode cX9_deals 60 = .ok (.iload 6, 2) := by decide +kernel
theorem dX9_deals_62 : decode cX9_deals 62 = .ok (.iconst 4, 1) := by decide +kernel
theorem dX9_deals_63 : decode cX9_deals 63 = .ok (.iadd, 1) := by decide +kernel
theorem dX9_deals_64 : decode cX9_deals 64 = .ok (.iload 5, 2) := by decide +kernel
theorem dX9_deals_66 : decode cX9_deals 66 = .ok (.iastore, 1) := by decide +kernel
theorem dX9_deals_67 : decode cX9_deals 67 = .ok (.aload_n 0, 1) := by decide +kernel
theorem dX9_deals_68 : decode cX9_deals 68 = .ok (.getfield 7, 3) := by decide +kernel
theorem dX9_deals_71 : decode cX9_deals 71 = .ok (.bipush 8, 2) := by decide +kernel
theorem dX9_deals_73 : decode cX9_deals 73 = .ok (.dup2, 1) := by decide +kernel
theorem dX9_deals_74 : decode cX9_deals 74 = .ok (.iaload, 1) := by decide +kernel
theorem dX9_deals_75 : decode cX9_deals 75 = .ok (.iconst 1, 1) := by decide +kernel
theorem dX9_deals_76 : decode cX9_deals 76 = .ok (.iadd, 1) := by decide +kernel
theorem dX9_deals_77 : decode cX9_deals 77 = .ok (.iastore, 1) := by decide +kernel
theorem dX9_deals_78 : decode cX9_deals 78 = .ok (.aload_n 0, 1) := by decide +kernel
theorem dX9_deals_79 : decode cX9_deals 79 = .ok (.getfield 7, 3) := by decide +kernel
theorem dX9_deals_82 : decode cX9_deals 82 = .ok (.bipush 9, 2) := by decide +kernel
theorem dX9_deals_84 : decode cX9_deals 84 = .ok (.dup2, 1) := by decide +kernel
theorem dX9_deals_85 : decode cX9_deals 85 = .ok (.iaload, 1) := by decide +kernel
theorem dX9_deals_86 : decode cX9_deals 86 = .ok (.iconst 1, 1) := by decide +kernel
theorem dX9_deals_87 : decode cX9_deals 87 = .ok (.iadd, 1) := by decide +kernel
theorem dX9_deals_88 : decode cX9_deals 88 = .ok (.iastore, 1) := by decide +kernel
theorem dX9_deals_89 : decode cX9_deals 89 = .ok (.aload_n 0, 1) := by decide +kernel
theorem dX9_deals_90 : decode cX9_deals 90 = .ok (.iload_n 1, 1) := by decide +kernel
theorem dX9_deals_91 : decode cX9_deals 91 = .ok (.iconst 2, 1) := by decide +kernel
theorem dX9_deals_92 : decode cX9_deals 92 = .ok (.iload 5, 2) := by decide +kernel
theorem dX9_deals_94 : decode cX9_deals 94 = .ok (.ineg, 1) := by decide +kernel
theorem dX9_deals_95 : decode cX9_deals 95 = .ok (.invokevirtual 101, 3) := by decide +kernel
theorem dX9_deals_98 : decode cX9_deals 98 = .ok (.aload_n 0, 1) := by decide +kernel
theorem dX9_deals_99 : decode cX9_deals 99 = .ok (.iload_n 1, 1) := by decide +kernel
theorem dX9_deals_100 : decode cX9_deals 100 = .ok (.bipush 7, 2) := by decide +kernel
theorem dX9_deals_102 : decode cX9_deals 102 = .ok (.iload 5, 2) := by decide +kernel
theorem dX9_deals_104 : decode cX9_deals 104 = .ok (.invokevirtual 101, 3) := by decide +kernel
theorem dX9_deals_107 : decode cX9_deals 107 = .ok (.aload_n 0, 1) := by decide +kernel
theorem dX9_deals_108 : decode cX9_deals 108 = .ok (.iload_n 1, 1) := by decide +kernel
theorem dX9_deals_109 : decode cX9_deals 109 = .ok (.iconst 5, 1) := by decide +kernel
theorem dX9_deals_110 : decode cX9_deals 110 = .ok (.iconst 1, 1) := by decide +kernel
theorem dX9_deals_111 : decode cX9_deals 111 = .ok (.invokevirtual 101, 3) := by decide +kernel
theorem dX9_deals_114 : decode cX9_deals 114 = .ok (.aload_n 0, 1) := by decide +kernel
theorem dX9_deals_115 : decode cX9_deals 115 = .ok (.iload_n 2, 1) := by decide +kernel
theorem dX9_deals_116 : decode cX9_deals 116 = .ok (.iconst 2, 1) := by decide +kernel
theorem dX9_deals_117 : decode cX9_deals 117 = .ok (.iload 5, 2) := by decide +kernel
theorem dX9_deals_119 : decode cX9_deals 119 = .ok (.invokevirtual 101, 3) := by decide +kernel
theorem dX9_deals_122 : decode cX9_deals 122 = .ok (.aload_n 0, 1) := by decide +kernel
theorem dX9_deals_123 : decode cX9_deals 123 = .ok (.iload_n 2, 1) := by decide +kernel
theorem dX9_deals_124 : decode cX9_deals 124 = .ok (.bipush 8, 2) := by decide +kernel
theorem dX9_deals_126 : decode cX9_deals 126 = .ok (.iload 5, 2) := by decide +kernel
theorem dX9_deals_128 : decode cX9_deals 128 = .ok (.invokevirtual 101, 3) := by decide +kernel
theorem dX9_deals_131 : decode cX9_deals 131 = .ok (.aload_n 0, 1) := by decide +kernel
theorem dX9_deals_132 : decode cX9_deals 132 = .ok (.iload_n 2, 1) := by decide +kernel
theorem dX9_deals_133 : decode cX9_deals 133 = .ok (.iconst 1, 1) := by decide +kernel
theorem dX9_deals_134 : decode cX9_deals 134 = .ok (.invokevirtual 163, 3) := by decide +kernel
theorem dX9_deals_137 : decode cX9_deals 137 = .ok (.return_, 1) := by decide +kernel
theorem dX9_haggle_0 : decode cX9_haggle 0 = .ok (.aload_n 0, 1) := by decide +kernel
theorem dX9_haggle_1 : decode cX9_haggle 1 = .ok (.iload_n 1, 1) := by decide +kernel
theorem dX9_haggle_2 : decode cX9_haggle 2 = .ok (.invokevirtual 154, 3) := by decide +kernel
theorem dX9_haggle_5 : decode cX9_haggle 5 = .ok (.ifCond .eq 11, 3) := by decide +kernel
theorem dX9_haggle_8 : decode cX9_haggle 8 = .ok (.aload_n 0, 1) := by decide +kernel
theorem dX9_haggle_9 : decode cX9_haggle 9 = .ok (.iload_n 2, 1) := by decide +kernel
theorem dX9_haggle_10 : decode cX9_haggle 10 = .ok (.invokevirtual 154, 3) := by decide +kernel
theorem dX9_haggle_13 : decode cX9_haggle 13 = .ok (.ifCond .ne 5, 3) := by decide +kernel
theorem dX9_haggle_16 : decode cX9_haggle 16 = .ok (.iconst (-1), 1) := by decide +kernel
theorem dX9_haggle_17 : decode cX9_haggle 17 = .ok (.ireturn, 1) := by decide +kernel
theorem dX9_haggle_18 : decode cX9_haggle 18 = .ok (.iload_n 3, 1) := by decide +kernel
theorem dX9_haggle_19 : decode cX9_haggle 19 = .ok (.iconst 1, 1) := by decide +kernel
theorem dX9_haggle_20 : decode cX9_haggle 20 = .ok (.bipush 20, 2) := by decide +kernel
theorem dX9_haggle_22 : decode cX9_haggle 22 = .ok (.invokestatic 45, 3) := by decide +kernel
theorem dX9_haggle_25 : decode cX9_haggle 25 = .ok (.ifCond .eq 32, 3) := by decide +kernel
theorem dX9_haggle_28 : decode cX9_haggle 28 = .ok (.iload 4, 2) := by decide +kernel
theorem dX9_haggle_30 : decode cX9_haggle 30 = .ok (.iconst 1, 1) := by decide +kernel
theorem dX9_haggle_31 : decode cX9_haggle 31 = .ok (.sipush 9999, 3) := by decide +kernel
theorem dX9_haggle_34 : decode cX9_haggle 34 = .ok (.invokestatic 45, 3) := by decide +kernel
theorem dX9_haggle_37 : decode cX9_haggle 37 = .ok (.ifCond .eq 20, 3) := by decide +kernel
theorem dX9_haggle_40 : decode cX9_haggle 40 = .ok (.iload 5, 2) := by decide +kernel
theorem dX9_haggle_42 : decode cX9_haggle 42 = .ok (.iconst 1, 1) := by decide +kernel
theorem dX9_haggle_43 : decode cX9_haggle 43 = .ok (.sipush 240, 3) := by decide +kernel
theorem dX9_haggle_46 : decode cX9_haggle 46 = .ok (.invokestatic 45, 3) := by decide +kernel
theorem dX9_haggle_49 : decode cX9_haggle 49 = .ok (.ifCond .eq 8, 3) := by decide +kernel
theorem dX9_haggle_52 : decode cX9_haggle 52 = .ok (.iload_n 1, 1) := by decide +kernel
theorem dX9_haggle_53 : decode cX9_haggle 53 = .ok (.iload_n 2, 1) := by decide +kernel
theorem dX9_haggle_54 : decode cX9_haggle 54 = .ok (.if_icmp .ne 6, 3) := by decide +kernel
theorem dX9_haggle_57 : decode cX9_haggle 57 = .ok (.bipush (-2), 2) := by decide +kernel
theorem dX9_haggle_59 : decode cX9_haggle 59 = .ok (.ireturn, 1) := by decide +kernel
theorem dX9_haggle_60 : decode cX9_haggle 60 = .ok (.aload_n 0, 1) := by decide +kernel
theorem dX9_haggle_61 : decode cX9_haggle 61 = .ok (.iload_n 2, 1) := by decide +kernel
theorem dX9_haggle_62 : decode cX9_haggle 62 = .ok (.iload_n 3, 1) := by decide +kernel
theorem dX9_haggle_63 : decode cX9_haggle 63 = .ok (.invokevirtual 166, 3) := by decide +kernel
theorem dX9_haggle_66 : decode cX9_haggle 66 = .ok (.ifCond .eq 14, 3) := by decide +kernel
theorem dX9_haggle_69 : decode cX9_haggle 69 = .ok (.aload_n 0, 1) := by decide +kernel
theorem dX9_haggle_70 : decode cX9_haggle 70 = .ok (.iload_n 1, 1) := by decide +kernel
theorem dX9_haggle_71 : decode cX9_haggle 71 = .ok (.iconst 2, 1) := by decide +kernel
theorem dX9_haggle_72 : decode cX9_haggle 72 = .ok (.invokevirtual 49, 3) := by decide +kernel
theorem dX9_haggle_75 : decode cX9_haggle 75 = .ok (.iload 4, 2) := by decide +kernel
theorem dX9_haggle_77 : decode cX9_haggle 77 = .ok (.if_icmp .ge 6, 3) := by decide +kernel
theorem dX9_haggle_80 : decode cX9_haggle 80 = .ok (.bipush (-4), 2) := by decide +kernel
theorem dX9_haggle_82 : decode cX9_haggle 82 = .ok (.ireturn, 1) := by decide +kernel
theorem dX9_haggle_83 : decode cX9_haggle 83 = .ok (.aload_n 0, 1) := by decide +kernel
theorem dX9_haggle_84 : decode cX9_haggle 84 = .ok (.getfield 7, 3) := by decide +kernel
theorem dX9_haggle_87 : decode cX9_haggle 87 = .ok (.bipush 8, 2) := by decide +kernel
theorem dX9_haggle_89 : decode cX9_haggle 89 = .ok (.iaload, 1) := by decide +kernel
theorem dX9_haggle_90 : decode cX9_haggle 90 = .ok (.bipush 10, 2) := by decide +kernel
theorem dX9_haggle_92 : decode cX9_haggle 92 = .ok (.if_icmp .ne 6, 3) := by decide +kernel
theorem dX9_haggle_95 : decode cX9_haggle 95 = .ok (.bipush (-3), 2) := by decide +kernel
theorem dX9_haggle_97 : decode cX9_haggle 97 = .ok (.ireturn, 1) := by decide +kernel
theorem dX9_haggle_98 : decode cX9_haggle 98 = .ok (.aload_n 0, 1) := by decide +kernel
theorem dX9_haggle_99 : decode cX9_haggle 99 = .ok (.invokevirtual 60, 3) := by decide +kernel
theorem dX9_haggle_102 : decode cX9_haggle 102 = .ok (.aload_n 0, 1) := by decide +kernel
theorem dX9_haggle_103 : decode cX9_haggle 103 = .ok (.iload_n 2, 1) := by decide +kernel
theorem dX9_haggle_104 : decode cX9_haggle 104 = .ok (.iload_n 3, 1) := by decide +kernel
theorem dX9_haggle_105 : decode cX9_haggle 105 = .ok (.invokevirtual 169, 3) := by decide +kernel
theorem dX9_haggle_108 : decode cX9_haggle 108 = .ok (.istore 6, 2) := by decide +kernel
theorem dX9_haggle_110 : decode cX9_haggle 110 = .ok (.iload 4, 2) := by decide +kernel
theorem dX9_haggle_112 : decode cX9_haggle 112 = .ok (.iload 6, 2) := by decide +kernel
theorem dX9_haggle_114 : decode cX9_haggle 114 = .ok (.if_icmp .lt 26, 3) := by decide +kernel
theorem dX9_haggle_117 : decode cX9_haggle 117 = .ok (.iload 4, 2) := by decide +kernel
theorem dX9_haggle_119 : decode cX9_haggle 119 = .ok (.iload 6, 2) := by decide +kernel
theorem dX9_haggle_121 : decode cX9_haggle 121 = .ok (.iadd, 1) := by decide +kernel
theorem dX9_haggle_122 : decode cX9_haggle 122 = .ok (.iconst 2, 1) := by decide +kernel
theorem dX9_haggle_123 : decode cX9_haggle 123 = .ok (.idiv, 1) := by decide +kernel
theorem dX9_haggle_124 : decode cX9_haggle 124 = .ok (.istore 7, 2) := by decide +kernel
theorem dX9_haggle_126 : decode cX9_haggle 126 = .ok (.aload_n 0, 1) := by decide +kernel
theorem dX9_haggle_127 : decode cX9_haggle 127 = .ok (.iload_n 1, 1) := by decide +kernel
theorem dX9_haggle_128 : decode cX9_haggle 128 = .ok (.iload_n 2, 1) := by decide +kernel
theorem dX9_haggle_129 : decode cX9_haggle 129 = .ok (.iload_n 3, 1) := by decide +kernel
theorem dX9_haggle_130 : decode cX9_haggle 130 = .ok (.iload 5, 2) := by decide +kernel
theorem dX9_haggle_132 : decode cX9_haggle 132 = .ok (.iload 7, 2) := by decide +kernel
theorem dX9_haggle_134 : decode cX9_haggle 134 = .ok (.invokevirtual 172, 3) := by decide +kernel
theorem dX9_haggle_137 : decode cX9_haggle 137 = .ok (.iload 7, 2) := by decide +kernel
theorem dX9_haggle_139 : decode cX9_haggle 139 = .ok (.ireturn, 1) := by decide +kernel
theorem dX9_haggle_140 : decode cX9_haggle 140 = .ok (.aload_n 0, 1) := by decide +kernel
theorem dX9_haggle_141 : decode cX9_haggle 141 = .ok (.iload_n 1, 1) := by decide +kernel
theorem dX9_haggle_142 : decode cX9_haggle 142 = .ok (.bipush 6, 2) := by decide +kernel
theorem dX9_haggle_144 : decode cX9_haggle 144 = .ok (.iconst 1, 1) := by decide +kernel
theorem dX9_haggle_145 : decode cX9_haggle 145 = .ok (.invokevirtual 101, 3) := by decide +kernel
theorem dX9_haggle_148 : decode cX9_haggle 148 = .ok (.aload_n 0, 1) := by decide +kernel
theorem dX9_haggle_149 : decode cX9_haggle 149 = .ok (.getfield 7, 3) := by decide +kernel
theorem dX9_haggle_152 : decode cX9_haggle 152 = .ok (.bipush 10, 2) := by decide +kernel
theorem dX9_haggle_154 : decode cX9_haggle 154 = .ok (.dup2, 1) := by decide +kernel
theorem dX9_haggle_155 : decode cX9_haggle 155 = .ok (.iaload, 1) := by decide +kernel
theorem dX9_haggle_156 : decode cX9_haggle 156 = .ok (.iconst 1, 1) := by decide +kernel
theorem dX9_haggle_157 : decode cX9_haggle 157 = .ok (.iadd, 1) := by decide +kernel
theorem dX9_haggle_158 : decode cX9_haggle 158 = .ok (.iastore, 1) := by decide +kernel
theorem dX9_haggle_159 : decode cX9_haggle 159 = .ok (.aload_n 0, 1) := by decide +kernel
theorem dX9_haggle_160 : decode cX9_haggle 160 = .ok (.iload_n 2, 1) := by decide +kernel
theorem dX9_haggle_161 : decode cX9_haggle 161 = .ok (.iconst 2, 1) := by decide +kernel
theorem dX9_haggle_162 : decode cX9_haggle 162 = .ok (.iload 4, 2) := by decide +kernel
theorem dX9_haggle_164 : decode cX9_haggle 164 = .ok (.imul, 1) := by decide +kernel
theorem dX9_haggle_165 : decode cX9_haggle 165 = .ok (.iload 6, 2) := by decide +kernel
theorem dX9_haggle_167 : decode cX9_haggle 167 = .ok (.if_icmp .lt 7, 3) := by decide +kernel
theorem dX9_haggle_170 : decode cX9_haggle 170 = .ok (.iconst (-1), 1) := by decide +kernel
theorem dX9_haggle_171 : decode cX9_haggle 171 = .ok (.goto 4, 3) := by decide +kernel
theorem dX9_haggle_174 : decode cX9_haggle 174 = .ok (.iconst 1, 1) := by decide +kernel
theorem dX9_haggle_175 : decode cX9_haggle 175 = .ok (.invokevirtual 163, 3) := by decide +kernel
theorem dX9_haggle_178 : decode cX9_haggle 178 = .ok (.iconst 0, 1) := by decide +kernel
theorem dX9_haggle_179 : decode cX9_haggle 179 = .ok (.ireturn, 1) := by decide +kernel
theorem dX9_undo_0 : decode cX9_undo 0 = .ok (.aload_n 0, 1) := by decide +kernel
theorem dX9_undo_1 : decode cX9_undo 1 = .ok (.getfield 37, 3) := by decide +kernel
theorem dX9_undo_4 : decode cX9_undo 4 = .ok (.ifCond .ne 6, 3) := by decide +kernel
theorem dX9_undo_7 : decode cX9_undo 7 = .ok (.bipush (-5), 2) := by decide +kernel
theorem dX9_undo_9 : decode cX9_undo 9 = .ok (.ireturn, 1) := by decide +kernel
theorem dX9_undo_10 : decode cX9_undo 10 = .ok (.aload_n 0, 1) := by decide +kernel
theorem dX9_undo_11 : decode cX9_undo 11 = .ok (.dup, 1) := by decide +kernel
theorem dX9_undo_12 : decode cX9_undo 12 = .ok (.getfield 37, 3) := by decide +kernel
theorem dX9_undo_15 : decode cX9_undo 15 = .ok (.iconst 1, 1) := by decide +kernel
theorem dX9_undo_16 : decode cX9_undo 16 = .ok (.isub, 1) := by decide +kernel
theorem dX9_undo_17 : decode cX9_undo 17 = .ok (.putfield 37, 3) := by decide +kernel
theorem dX9_undo_20 : decode cX9_undo 20 = .ok (.aload_n 0, 1) := by decide +kernel
theorem dX9_undo_21 : decode cX9_undo 21 = .ok (.getfield 19, 3) := by decide +kernel
theorem dX9_undo_24 : decode cX9_undo 24 = .ok (.aload_n 0, 1) := by decide +kernel
theorem dX9_undo_25 : decode cX9_undo 25 = .ok (.getfield 37, 3) := by decide +kernel
theorem dX9_undo_28 : decode cX9_undo 28 = .ok (.sipush 401, 3) := by decide +kernel
theorem dX9_undo_31 : decode cX9_undo 31 = .ok (.imul, 1) := by decide +kernel
theorem dX9_undo_32 : decode cX9_undo 32 = .ok (.aload_n 0, 1) := by decide +kernel
theorem dX9_undo_33 : decode cX9_undo 33 = .ok (.getfield 7, 3) := by decide +kernel
theorem dX9_undo_36 : decode cX9_undo 36 = .ok (.iconst 0, 1) := by decide +kernel
theorem dX9_undo_37 : decode cX9_undo 37 = .ok (.invokestatic 41, 3) := by decide +kernel
theorem dX9_undo_40 : decode cX9_undo 40 = .ok (.aload_n 0, 1) := by decide +kernel
theorem dX9_undo_41 : decode cX9_undo 41 = .ok (.getfield 37, 3) := by decide +kernel
theorem dX9_undo_44 : decode cX9_undo 44 = .ok (.ireturn, 1) := by decide +kernel
theorem dX9_keep_0 : decode cX9_keep 0 = .ok (.aload_n 0, 1) := by decide +kernel
theorem dX9_keep_1 : decode cX9_keep 1 = .ok (.getfield 7, 3) := by decide +kernel
theorem dX9_keep_4 : decode cX9_keep 4 = .ok (.iconst 0, 1) := by decide +kernel
theorem dX9_keep_5 : decode cX9_keep 5 = .ok (.aload_n 0, 1) := by decide +kernel
theorem dX9_keep_6 : decode cX9_keep 6 = .ok (.getfield 16, 3) := by decide +kernel
theorem dX9_keep_9 : decode cX9_keep 9 = .ok (.iconst 0, 1) := by decide +kernel
theorem dX9_keep_10 : decode cX9_keep 10 = .ok (.invokestatic 41, 3) := by decide +kernel
theorem dX9_keep_13 : decode cX9_keep 13 = .ok (.aload_n 0, 1) := by decide +kernel
theorem dX9_keep_14 : decode cX9_keep 14 = .ok (.iconst 1, 1) := by decide +kernel
theorem dX9_keep_15 : decode cX9_keep 15 = .ok (.putfield 176, 3) := by decide +kernel
theorem dX9_keep_18 : decode cX9_keep 18 = .ok (.aload_n 0, 1) := by decide +kernel
theorem dX9_keep_19 : decode cX9_keep 19 = .ok (.getfield 7, 3) := by decide +kernel
theorem dX9_keep_22 : decode cX9_keep 22 = .ok (.iconst 0, 1) := by decide +kernel
theorem dX9_keep_23 : decode cX9_keep 23 = .ok (.iaload, 1) := by decide +kernel
theorem dX9_keep_24 : decode cX9_keep 24 = .ok (.ireturn, 1) := by decide +kernel
theorem dX9_restore_0 : decode cX9_restore 0 = .ok (.aload_n 0, 1) := by decide +kernel
theorem dX9_restore_1 : decode cX9_restore 1 = .ok (.getfield 176, 3) := by decide +kernel
theorem dX9_restore_4 : decode cX9_restore 4 = .ok (.ifCond .ne 6, 3) := by decide +kernel
theorem dX9_restore_7 : decode cX9_restore 7 = .ok (.bipush (-5), 2) := by decide +kernel
theorem dX9_restore_9 : decode cX9_restore 9 = .ok (.ireturn, 1) := by decide +kernel
theorem dX9_restore_10 : decode cX9_restore 10 = .ok (.aload_n 0, 1) := by decide +kernel
theorem dX9_restore_11 : decode cX9_restore 11 = .ok (.invokevirtual 60, 3) := by decide +kernel
theorem dX9_restore_14 : decode cX9_restore 14 = .ok (.aload_n 0, 1) := by decide +kernel
theorem dX9_restore_15 : decode cX9_restore 15 = .ok (.getfield 16, 3) := by decide +kernel
theorem dX9_restore_18 : decode cX9_restore 18 = .ok (.iconst 0, 1) := by decide +kernel
theorem dX9_restore_19 : decode cX9_restore 19 = .ok (.aload_n 0, 1) := by decide +kernel
theorem dX9_restore_20 : decode cX9_restore 20 = .ok (.getfield 7, 3) := by decide +kernel
theorem dX9_restore_23 : decode cX9_restore 23 = .ok (.iconst 0, 1) := by decide +kernel
theorem dX9_restore_24 : decode cX9_restore 24 = .ok (.invokestatic 41, 3) := by decide +kernel
theorem dX9_restore_27 : decode cX9_restore 27 = .ok (.aload_n 0, 1) := by decide +kernel
theorem dX9_restore_28 : decode cX9_restore 28 = .ok (.getfield 7, 3) := by decide +kernel
theorem dX9_restore_31 : decode cX9_restore 31 = .ok (.iconst 0, 1) := by decide +kernel
theorem dX9_restore_32 : decode cX9_restore 32 = .ok (.iaload, 1) := by decide +kernel
theorem dX9_restore_33 : decode cX9_restore 33 = .ok (.ireturn, 1) := by decide +kernel
theorem dX9_house_0 : decode cX9_house 0 = .ok (.aload_n 0, 1) := by decide +kernel
theorem dX9_house_1 : decode cX9_house 1 = .ok (.iload_n 1, 1) := by decide +kernel
theorem dX9_house_2 : decode cX9_house 2 = .ok (.invokevirtual 154, 3) := by decide +kernel
theorem dX9_house_5 : decode cX9_house 5 = .ok (.ifCond .ne 5, 3) := by decide +kernel
theorem dX9_house_8 : decode cX9_house 8 = .ok (.iconst (-1), 1) := by decide +kernel
theorem dX9_house_9 : decode cX9_house 9 = .ok (.ireturn, 1) := by decide +kernel
theorem dX9_house_10 : decode cX9_house 10 = .ok (.iload_n 2, 1) := by decide +kernel
theorem dX9_house_11 : decode cX9_house 11 = .ok (.iconst 0, 1) := by decide +kernel
theorem dX9_house_12 : decode cX9_house 12 = .ok (.bipush 9, 2) := by decide +kernel
theorem dX9_house_14 : decode cX9_house 14 = .ok (.invokestatic 45, 3) := by decide +kernel
theorem dX9_house_17 : decode cX9_house 17 = .ok (.ifCond .ne 8, 3) := by decide +kernel
theorem dX9_house_20 : decode cX9_house 20 = .ok (.bipush (-2), 2) := by decide +kernel
theorem dX9_house_22 : decode cX9_house 22 = .ok (.goto 23, 3) := by decide +kernel
theorem dX9_house_25 : decode cX9_house 25 = .ok (.iload_n 2, 1) := by decide +kernel
theorem dX9_house_26 : decode cX9_house 26 = .ok (.ifCond .ne 11, 3) := by decide +kernel
theorem dX9_house_29 : decode cX9_house 29 = .ok (.aload_n 0, 1) := by decide +kernel
theorem dX9_house_30 : decode cX9_house 30 = .ok (.iload_n 1, 1) := by decide +kernel
theorem dX9_house_31 : decode cX9_house 31 = .ok (.invokevirtual 91, 3) := by decide +kernel
theorem dX9_house_34 : decode cX9_house 34 = .ok (.goto 11, 3) := by decide +kernel
theorem dX9_house_37 : decode cX9_house 37 = .ok (.aload_n 0, 1) := by decide +kernel
theorem dX9_house_38 : decode cX9_house 38 = .ok (.iload_n 1, 1) := by decide +kernel
theorem dX9_house_39 : decode cX9_house 39 = .ok (.iload_n 2, 1) := by decide +kernel
theorem dX9_house_40 : decode cX9_house 40 = .ok (.iconst 1, 1) := by decide +kernel
theorem dX9_house_41 : decode cX9_house 41 = .ok (.isub, 1) := by decide +kernel
theorem dX9_house_42 : decode cX9_house 42 = .ok (.invokevirtual 49, 3) := by decide +kernel
theorem dX9_house_45 : decode cX9_house 45 = .ok (.ireturn, 1) := by decide +kernel
theorem dX9_washer_0 : decode cX9_washer 0 = .ok (.aload_n 0, 1) := by decide +kernel
theorem dX9_washer_1 : decode cX9_washer 1 = .ok (.iload_n 1, 1) := by decide +kernel
theorem dX9_washer_2 : decode cX9_washer 2 = .ok (.invokevirtual 154, 3) := by decide +kernel
theorem dX9_washer_5 : decode cX9_washer 5 = .ok (.ifCond .ne 5, 3) := by decide +kernel
theorem dX9_washer_8 : decode cX9_washer 8 = .ok (.iconst (-1), 1) := by decide +kernel
theorem dX9_washer_9 : decode cX9_washer 9 = .ok (.ireturn, 1) := by decide +kernel
theorem dX9_washer_10 : decode cX9_washer 10 = .ok (.aload_n 0, 1) := by decide +kernel
theorem dX9_washer_11 : decode cX9_washer 11 = .ok (.iload_n 1, 1) := by decide +kernel
theorem dX9_washer_12 : decode cX9_washer 12 = .ok (.bipush 9, 2) := by decide +kernel
theorem dX9_washer_14 : decode cX9_washer 14 = .ok (.invokevirtual 49, 3) := by decide +kernel
theorem dX9_washer_17 : decode cX9_washer 17 = .ok (.ifCond .ne 7, 3) := by decide +kernel
theorem dX9_washer_20 : decode cX9_washer 20 = .ok (.iconst 1, 1) := by decide +kernel
theorem dX9_washer_21 : decode cX9_washer 21 = .ok (.goto 4, 3) := by decide +kernel
theorem dX9_washer_24 : decode cX9_washer 24 = .ok (.iconst 0, 1) := by decide +kernel
theorem dX9_washer_25 : decode cX9_washer 25 = .ok (.istore_n 3, 1) := by decide +kernel
theorem dX9_washer_26 : decode cX9_washer 26 = .ok (.iload_n 2, 1) := by decide +kernel
theorem dX9_washer_27 : decode cX9_washer 27 = .ok (.tableswitch 137 0 8 #[49, 57, 74, 82, 88, 96, 104, 121, 129], 49) := by decide +kernel
theorem dX9_washer_76 : decode cX9_washer 76 = .ok (.aload_n 0, 1) := by decide +kernel
theorem dX9_washer_77 : decode cX9_washer 77 = .ok (.iload_n 1, 1) := by decide +kernel
theorem dX9_washer_78 : decode cX9_washer 78 = .ok (.bipush 9, 2) := by decide +kernel
theorem dX9_washer_80 : decode cX9_washer 80 = .ok (.invokevirtual 49, 3) := by decide +kernel
theorem dX9_washer_83 : decode cX9_washer 83 = .ok (.ireturn, 1) := by decide +kernel
theorem dX9_washer_84 : decode cX9_washer 84 = .ok (.iload_n 3, 1) := by decide +kernel
theorem dX9_washer_85 : decode cX9_washer 85 = .ok (.ifCond .eq 8, 3) := by decide +kernel
theorem dX9_washer_88 : decode cX9_washer 88 = .ok (.bipush (-5), 2) := by decide +kernel
theorem dX9_washer_90 : decode cX9_washer 90 = .ok (.goto 10, 3) := by decide +kernel
theorem dX9_washer_93 : decode cX9_washer 93 = .ok (.aload_n 0, 1) := by decide +kernel
theorem dX9_washer_94 : decode cX9_washer 94 = .ok (.iload_n 1, 1) := by decide +kernel
theorem dX9_washer_95 : decode cX9_washer 95 = .ok (.bipush 10, 2) := by decide +kernel
theorem dX9_washer_97 : decode cX9_washer 97 = .ok (.invokevirtual 49, 3) := by decide +kernel
theorem dX9_washer_100 : decode cX9_washer 100 = .ok (.ireturn, 1) := by decide +kernel
theorem dX9_washer_101 : decode cX9_washer 101 = .ok (.aload_n 0, 1) := by decide +kernel
theorem dX9_washer_102 : decode cX9_washer 102 = .ok (.iload_n 1, 1) := by decide +kernel
theorem dX9_washer_103 : decode cX9_washer 103 = .ok (.bipush 11, 2) := by decide +kernel
theorem dX9_washer_105 : decode cX9_washer 105 = .ok (.invokevirtual 49, 3) := by decide +kernel
theorem dX9_washer_108 : decode cX9_washer 108 = .ok (.ireturn, 1) := by decide +kernel
theorem dX9_washer_109 : decode cX9_washer 109 = .ok (.aload_n 0, 1) := by decide +kernel
theorem dX9_washer_110 : decode cX9_washer 110 = .ok (.iload_n 1, 1) := by decide +kernel
theorem dX9_washer_111 : decode cX9_washer 111 = .ok (.invokevirtual 68, 3) := by decide +kernel
theorem dX9_washer_114 : decode cX9_washer 114 = .ok (.ireturn, 1) := by decide +kernel
theorem dX9_washer_115 : decode cX9_washer 115 = .ok (.aload_n 0, 1) := by decide +kernel
theorem dX9_washer_116 : decode cX9_washer 116 = .ok (.iload_n 1, 1) := by decide +kernel
theorem dX9_washer_117 : decode cX9_washer 117 = .ok (.bipush 12, 2) := by decide +kernel
theorem dX9_washer_119 : decode cX9_washer 119 = .ok (.invokevirtual 49, 3) := by decide +kernel
theorem dX9_washer_122 : decode cX9_washer 122 = .ok (.ireturn, 1) := by decide +kernel
theorem dX9_washer_123 : decode cX9_washer 123 = .ok (.aload_n 0, 1) := by decide +kernel
theorem dX9_washer_124 : decode cX9_washer 124 = .ok (.iload_n 1, 1) := by decide +kernel
theorem dX9_washer_125 : decode cX9_washer 125 = .ok (.bipush 13, 2) := by decide +kernel
theorem dX9_washer_127 : decode cX9_washer 127 = .ok (.invokevirtual 49, 3) := by decide +kernel
theorem dX9_washer_130 : decode cX9_washer 130 = .ok (.ireturn, 1) := by decide +kernel
theorem dX9_washer_131 : decode cX9_washer 131 = .ok (.iload_n 3, 1) := by decide +kernel
theorem dX9_washer_132 : decode cX9_washer 132 = .ok (.ifCond .eq 8, 3) := by decide +kernel
theorem dX9_washer_135 : decode cX9_washer 135 = .ok (.bipush (-5), 2) := by decide +kernel
theorem dX9_washer_137 : decode cX9_washer 137 = .ok (.goto 10, 3) := by decide +kernel
theorem dX9_washer_140 : decode cX9_washer 140 = .ok (.aload_n 0, 1) := by decide +kernel
theorem dX9_washer_141 : decode cX9_washer 141 = .ok (.iload_n 1, 1) := by decide +kernel
theorem dX9_washer_142 : decode cX9_washer 142 = .ok (.bipush 14, 2) := by decide +kernel
theorem dX9_washer_144 : decode cX9_washer 144 = .ok (.invokevirtual 49, 3) := by decide +kernel
theorem dX9_washer_147 : decode cX9_washer 147 = .ok (.ireturn, 1) := by decide +kernel
theorem dX9_washer_148 : decode cX9_washer 148 = .ok (.aload_n 0, 1) := by decide +kernel
theorem dX9_washer_149 : decode cX9_washer 149 = .ok (.iload_n 1, 1) := by decide +kernel
theorem dX9_washer_150 : decode cX9_washer 150 = .ok (.bipush 15, 2) := by decide +kernel
theorem dX9_washer_152 : decode cX9_washer 152 = .ok (.invokevirtual 49, 3) := by decide +kernel
theorem dX9_washer_155 : decode cX9_washer 155 = .ok (.ireturn, 1) := by decide +kernel
theorem dX9_washer_156 : decode cX9_washer 156 = .ok (.aload_n 0, 1) := by decide +kernel
theorem dX9_washer_157 : decode cX9_washer 157 = .ok (.iload_n 1, 1) := by decide +kernel
theorem dX9_washer_158 : decode cX9_washer 158 = .ok (.bipush 17, 2) := by decide +kernel
theorem dX9_washer_160 : decode cX9_washer 160 = .ok (.invokevirtual 49, 3) := by decide +kernel
theorem dX9_washer_163 : decode cX9_washer 163 = .ok (.ireturn, 1) := by decide +kernel
theorem dX9_washer_164 : decode cX9_washer 164 = .ok (.bipush (-2), 2) := by decide +kernel
theorem dX9_washer_166 : decode cX9_washer 166 = .ok (.ireturn, 1) := by decide +kernel
theorem dX9_phase_0 : decode cX9_phase 0 = .ok (.aload_n 0, 1) := by decide +kernel
theorem dX9_phase_1 : decode cX9_phase 1 = .ok (.iload_n 1, 1) := by decide +kernel
theorem dX9_phase_2 : decode cX9_phase 2 = .ok (.invokevirtual 154, 3) := by decide +kernel
theorem dX9_phase_5 : decode cX9_phase 5 = .ok (.ifCond .eq 20, 3) := by decide +kernel
theorem dX9_phase_8 : decode cX9_phase 8 = .ok (.iload_n 2, 1) := by decide +kernel
theorem dX9_phase_9 : decode cX9_phase 9 = .ok (.iconst 0, 1) := by decide +kernel
theorem dX9_phase_10 : decode cX9_phase 10 = .ok (.aload_n 0, 1) := by decide +kernel
theorem dX9_phase_11 : decode cX9_phase 11 = .ok (.iload_n 1, 1) := by decide +kernel
theorem dX9_phase_12 : decode cX9_phase 12 = .ok (.bipush 15, 2) := by decide +kernel
theorem dX9_phase_14 : decode cX9_phase 14 = .ok (.invokevirtual 49, 3) := by decide +kernel
theorem dX9_phase_17 : decode cX9_phase 17 = .ok (.iconst 1, 1) := by decide +kernel
theorem dX9_phase_18 : decode cX9_phase 18 = .ok (.isub, 1) := by decide +kernel
theorem dX9_phase_19 : decode cX9_phase 19 = .ok (.invokestatic 45, 3) := by decide +kernel
theorem dX9_phase_22 : decode cX9_phase 22 = .ok (.ifCond .ne 5, 3) := by decide +kernel
theorem dX9_phase_25 : decode cX9_phase 25 = .ok (.iconst (-1), 1) := by decide +kernel
theorem dX9_phase_26 : decode cX9_phase 26 = .ok (.ireturn, 1) := by decide +kernel
theorem dX9_phase_27 : decode cX9_phase 27 = .ok (.iload_n 3, 1) := by decide +kernel
theorem dX9_phase_28 : decode cX9_phase 28 = .ok (.ifCond .ne 15, 3) := by decide +kernel
theorem dX9_phase_31 : decode cX9_phase 31 = .ok (.aload_n 0, 1) := by decide +kernel
theorem dX9_phase_32 : decode cX9_phase 32 = .ok (.iload_n 1, 1) := by decide +kernel
theorem dX9_phase_33 : decode cX9_phase 33 = .ok (.bipush 18, 2) := by decide +kernel
theorem dX9_phase_35 : decode cX9_phase 35 = .ok (.iload_n 2, 1) := by decide +kernel
theorem dX9_phase_36 : decode cX9_phase 36 = .ok (.iadd, 1) := by decide +kernel
theorem dX9_phase_37 : decode cX9_phase 37 = .ok (.invokevirtual 49, 3) := by decide +kernel
theorem dX9_phase_40 : decode cX9_phase 40 = .ok (.goto 22, 3) := by decide +kernel
theorem dX9_phase_43 : decode cX9_phase 43 = .ok (.iload_n 3, 1) := by decide +kernel
theorem dX9_phase_44 : decode cX9_phase 44 = .ok (.iconst 1, 1) := by decide +kernel
theorem dX9_phase_45 : decode cX9_phase 45 = .ok (.if_icmp .ne 15, 3) := by decide +kernel
theorem dX9_phase_48 : decode cX9_phase 48 = .ok (.aload_n 0, 1) := by decide +kernel
theorem dX9_phase_49 : decode cX9_phase 49 = .ok (.iload_n 1, 1) := by decide +kernel
theorem dX9_phase_50 : decode cX9_phase 50 = .ok (.bipush 30, 2) := by decide +kernel
theorem dX9_phase_52 : decode cX9_phase 52 = .ok (.iload_n 2, 1) := by decide +kernel
theorem dX9_phase_53 : decode cX9_phase 53 = .ok (.iadd, 1) := by decide +kernel
theorem dX9_phase_54 : decode cX9_phase 54 = .ok (.invokevirtual 49, 3) := by decide +kernel
theorem dX9_phase_57 : decode cX9_phase 57 = .ok (.goto 5, 3) := by decide +kernel
theorem dX9_phase_60 : decode cX9_phase 60 = .ok (.bipush (-2), 2) := by decide +kernel
theorem dX9_phase_62 : decode cX9_phase 62 = .ok (.ireturn, 1) := by decide +kernel
theorem dX9_boiler_0 : decode cX9_boiler 0 = .ok (.iconst 0, 1) := by decide +kernel
theorem dX9_boiler_1 : decode cX9_boiler 1 = .ok (.istore_n 2, 1) := by decide +kernel
theorem dX9_boiler_2 : decode cX9_boiler 2 = .ok (.iconst 0, 1) := by decide +kernel
theorem dX9_boiler_3 : decode cX9_boiler 3 = .ok (.istore_n 3, 1) := by decide +kernel
theorem dX9_boiler_4 : decode cX9_boiler 4 = .ok (.iload_n 3, 1) := by decide +kernel
theorem dX9_boiler_5 : decode cX9_boiler 5 = .ok (.aload_n 0, 1) := by decide +kernel
theorem dX9_boiler_6 : decode cX9_boiler 6 = .ok (.getfield 7, 3) := by decide +kernel
theorem dX9_boiler_9 : decode cX9_boiler 9 = .ok (.iconst 2, 1) := by decide +kernel
theorem dX9_boiler_10 : decode cX9_boiler 10 = .ok (.iaload, 1) := by decide +kernel
theorem dX9_boiler_11 : decode cX9_boiler 11 = .ok (.if_icmp .ge 17, 3) := by decide +kernel
theorem dX9_boiler_14 : decode cX9_boiler 14 = .ok (.iload_n 2, 1) := by decide +kernel
theorem dX9_boiler_15 : decode cX9_boiler 15 = .ok (.aload_n 0, 1) := by decide +kernel
theorem dX9_boiler_16 : decode cX9_boiler 16 = .ok (.iload_n 3, 1) := by decide +kernel
theorem dX9_boiler_17 : decode cX9_boiler 17 = .ok (.invokevirtual 94, 3) := by decide +kernel
theorem dX9_boiler_20 : decode cX9_boiler 20 = .ok (.iadd, 1) := by decide +kernel
theorem dX9_boiler_21 : decode cX9_boiler 21 = .ok (.istore_n 2, 1) := by decide +kernel
theorem dX9_boiler_22 : decode cX9_boiler 22 = .ok (.iinc 3 1, 3) := by decide +kernel
theorem dX9_boiler_25 : decode cX9_boiler 25 = .ok (.goto (-21), 3) := by decide +kernel
theorem dX9_boiler_28 : decode cX9_boiler 28 = .ok (.iload_n 1, 1) := by decide +kernel
theorem dX9_boiler_29 : decode cX9_boiler 29 = .ok (.tableswitch 92 0 7 #[47, 55, 55, 55, 66, 74, 82, 84], 47) := by decide +kernel
theorem dX9_boiler_76 : decode cX9_boiler 76 = .ok (.aload_n 0, 1) := by decide +kernel
theorem dX9_boiler_77 : decode cX9_boiler 77 = .ok (.getfield 7, 3) := by decide +kernel
theorem dX9_boiler_80 : decode cX9_boiler 80 = .ok (.bipush 7, 2) := by decide +kernel
theorem dX9_boiler_82 : decode cX9_boiler 82 = .ok (.iaload, 1) := by decide +kernel
theorem dX9_boiler_83 : decode cX9_boiler 83 = .ok (.ireturn, 1) := by decide +kernel
theorem dX9_boiler_84 : decode cX9_boiler 84 = .ok (.aload_n 0, 1) := by decide +kernel
theorem dX9_boiler_85 : decode cX9_boiler 85 = .ok (.getfield 7, 3) := by decide +kernel
theorem dX9_boiler_88 : decode cX9_boiler 88 = .ok (.iconst 3, 1) := by decide +kernel
theorem dX9_boiler_89 : decode cX9_boiler 89 = .ok (.iload_n 1, 1) := by decide +kernel
theorem dX9_boiler_90 : decode cX9_boiler 90 = .ok (.iadd, 1) := by decide +kernel
theorem dX9_boiler_91 : decode cX9_boiler 91 = .ok (.iconst 1, 1) := by decide +kernel
theorem dX9_boiler_92 : decode cX9_boiler 92 = .ok (.isub, 1) := by decide +kernel
theorem dX9_boiler_93 : decode cX9_boiler 93 = .ok (.iaload, 1) := by decide +kernel
theorem dX9_boiler_94 : decode cX9_boiler 94 = .ok (.ireturn, 1) := by decide +kernel
theorem dX9_boiler_95 : decode cX9_boiler 95 = .ok (.aload_n 0, 1) := by decide +kernel
theorem dX9_boiler_96 : decode cX9_boiler 96 = .ok (.getfield 7, 3) := by decide +kernel
theorem dX9_boiler_99 : decode cX9_boiler 99 = .ok (.bipush 13, 2) := by decide +kernel
theorem dX9_boiler_101 : decode cX9_boiler 101 = .ok (.iaload, 1) := by decide +kernel
theorem dX9_boiler_102 : decode cX9_boiler 102 = .ok (.ireturn, 1) := by decide +kernel
theorem dX9_boiler_103 : decode cX9_boiler 103 = .ok (.aload_n 0, 1) := by decide +kernel
theorem dX9_boiler_104 : decode cX9_boiler 104 = .ok (.getfield 7, 3) := by decide +kernel
theorem dX9_boiler_107 : decode cX9_boiler 107 = .ok (.bipush 14, 2) := by decide +kernel
theorem dX9_boiler_109 : decode cX9_boiler 109 = .ok (.iaload, 1) := by decide +kernel
theorem dX9_boiler_110 : decode cX9_boiler 110 = .ok (.ireturn, 1) := by decide +kernel
theorem dX9_boiler_111 : decode cX9_boiler 111 = .ok (.iload_n 2, 1) := by decide +kernel
theorem dX9_boiler_112 : decode cX9_boiler 112 = .ok (.ireturn, 1) := by decide +kernel
theorem dX9_boiler_113 : decode cX9_boiler 113 = .ok (.aload_n 0, 1) := by decide +kernel
theorem dX9_boiler_114 : decode cX9_boiler 114 = .ok (.getfield 7, 3) := by decide +kernel
theorem dX9_boiler_117 : decode cX9_boiler 117 = .ok (.bipush 6, 2) := by decide +kernel
theorem dX9_boiler_119 : decode cX9_boiler 119 = .ok (.iaload, 1) := by decide +kernel
theorem dX9_boiler_120 : decode cX9_boiler 120 = .ok (.ireturn, 1) := by decide +kernel
theorem dX9_boiler_121 : decode cX9_boiler 121 = .ok (.bipush (-2), 2) := by decide +kernel
theorem dX9_boiler_123 : decode cX9_boiler 123 = .ok (.ireturn, 1) := by decide +kernel
theorem dX9_heatNext_0 : decode cX9_heatNext 0 = .ok (.aload_n 0, 1) := by decide +kernel
theorem dX9_heatNext_1 : decode cX9_heatNext 1 = .ok (.iload_n 1, 1) := by decide +kernel
theorem dX9_heatNext_2 : decode cX9_heatNext 2 = .ok (.invokevirtual 154, 3) := by decide +kernel
theorem dX9_heatNext_5 : decode cX9_heatNext 5 = .ok (.ifCond .ne 5, 3) := by decide +kernel
theorem dX9_heatNext_8 : decode cX9_heatNext 8 = .ok (.iconst (-1), 1) := by decide +kernel
theorem dX9_heatNext_9 : decode cX9_heatNext 9 = .ok (.ireturn, 1) := by decide +kernel
theorem dX9_heatNext_10 : decode cX9_heatNext 10 = .ok (.aload_n 0, 1) := by decide +kernel
theorem dX9_heatNext_11 : decode cX9_heatNext 11 = .ok (.getfield 7, 3) := by decide +kernel
theorem dX9_heatNext_14 : decode cX9_heatNext 14 = .ok (.iconst 1, 1) := by decide +kernel
theorem dX9_heatNext_15 : decode cX9_heatNext 15 = .ok (.iaload, 1) := by decide +kernel
theorem dX9_heatNext_16 : decode cX9_heatNext 16 = .ok (.ifCond .ne 5, 3) := by decide +kernel
theorem dX9_heatNext_19 : decode cX9_heatNext 19 = .ok (.iconst 0, 1) := by decide +kernel
theorem dX9_heatNext_20 : decode cX9_heatNext 20 = .ok (.ireturn, 1) := by decide +kernel
theorem dX9_heatNext_21 : decode cX9_heatNext 21 = .ok (.aload_n 0, 1) := by decide +kernel
theorem dX9_heatNext_22 : decode cX9_heatNext 22 = .ok (.getfield 7, 3) := by decide +kernel
theorem dX9_heatNext_25 : decode cX9_heatNext 25 = .ok (.iconst 0, 1) := by decide +kernel
theorem dX9_heatNext_26 : decode cX9_heatNext 26 = .ok (.aload_n 0, 1) := by decide +kernel
theorem dX9_heatNext_27 : decode cX9_heatNext 27 = .ok (.getfield 13, 3) := by decide +kernel
theorem dX9_heatNext_30 : decode cX9_heatNext 30 = .ok (.iconst 0, 1) := by decide +kernel
theorem dX9_heatNext_31 : decode cX9_heatNext 31 = .ok (.invokestatic 41, 3) := by decide +kernel
theorem dX9_heatNext_34 : decode cX9_heatNext 34 = .ok (.aload_n 0, 1) := by decide +kernel
theorem dX9_heatNext_35 : decode cX9_heatNext 35 = .ok (.invokevirtual 118, 3) := by decide +kernel
theorem dX9_heatNext_38 : decode cX9_heatNext 38 = .ok (.aload_n 0, 1) := by decide +kernel
theorem dX9_heatNext_39 : decode cX9_heatNext 39 = .ok (.aload_n 0, 1) := by decide +kernel
theorem dX9_heatNext_40 : decode cX9_heatNext 40 = .ok (.invokevirtual 121, 3) := by decide +kernel
theorem dX9_heatNext_43 : decode cX9_heatNext 43 = .ok (.invokevirtual 124, 3) := by decide +kernel
theorem dX9_heatNext_46 : decode cX9_heatNext 46 = .ok (.pop, 1) := by decide +kernel
theorem dX9_heatNext_47 : decode cX9_heatNext 47 = .ok (.aload_n 0, 1) := by decide +kernel
theorem dX9_heatNext_48 : decode cX9_heatNext 48 = .ok (.getfield 13, 3) := by decide +kernel
theorem dX9_heatNext_51 : decode cX9_heatNext 51 = .ok (.iconst 0, 1) := by decide +kernel
theorem dX9_heatNext_52 : decode cX9_heatNext 52 = .ok (.aload_n 0, 1) := by decide +kernel
theorem dX9_heatNext_53 : decode cX9_heatNext 53 = .ok (.getfield 7, 3) := by decide +kernel
theorem dX9_heatNext_56 : decode cX9_heatNext 56 = .ok (.iconst 0, 1) := by decide +kernel
theorem dX9_heatNext_57 : decode cX9_heatNext 57 = .ok (.invokestatic 41, 3) := by decide +kernel
theorem dX9_heatNext_60 : decode cX9_heatNext 60 = .ok (.aload_n 0, 1) := by decide +kernel
theorem dX9_heatNext_61 : decode cX9_heatNext 61 = .ok (.getfield 28, 3) := by decide +kernel
theorem dX9_heatNext_64 : decode cX9_heatNext 64 = .ok (.iload_n 1, 1) := by decide +kernel
theorem dX9_heatNext_65 : decode cX9_heatNext 65 = .ok (.iaload, 1) := by decide +kernel
theorem dX9_heatNext_66 : decode cX9_heatNext 66 = .ok (.ireturn, 1) := by decide +kernel
theorem dX9_lease_0 : decode cX9_lease 0 = .ok (.iload_n 1, 1) := by decide +kernel
theorem dX9_lease_1 : decode cX9_lease 1 = .ok (.iconst 0, 1) := by decide +kernel
theorem dX9_lease_2 : decode cX9_lease 2 = .ok (.aload_n 0, 1) := by decide +kernel
theorem dX9_lease_3 : decode cX9_lease 3 = .ok (.getfield 7, 3) := by decide +kernel
theorem dX9_lease_6 : decode cX9_lease 6 = .ok (.bipush 8, 2) := by decide +kernel
theorem dX9_lease_8 : decode cX9_lease 8 = .ok (.iaload, 1) := by decide +kernel
theorem dX9_lease_9 : decode cX9_lease 9 = .ok (.iconst 1, 1) := by decide +kernel
theorem dX9_lease_10 : decode cX9_lease 10 = .ok (.isub, 1) := by decide +kernel
theorem dX9_lease_11 : decode cX9_lease 11 = .ok (.invokestatic 45, 3) := by decide +kernel
theorem dX9_lease_14 : decode cX9_lease 14 = .ok (.ifCond .ne 7, 3) := by decide +kernel
theorem dX9_lease_17 : decode cX9_lease 17 = .ok (.iconst (-1), 1) := by decide +kernel
theorem dX9_lease_18 : decode cX9_lease 18 = .ok (.goto 23, 3) := by decide +kernel
theorem dX9_lease_21 : decode cX9_lease 21 = .ok (.iload_n 2, 1) := by decide +kernel
theorem dX9_lease_22 : decode cX9_lease 22 = .ok (.iconst 0, 1) := by decide +kernel
theorem dX9_lease_23 : decode cX9_lease 23 = .ok (.iconst 4, 1) := by decide +kernel
theorem dX9_lease_24 : decode cX9_lease 24 = .ok (.invokestatic 45, 3) := by decide +kernel
theorem dX9_lease_27 : decode cX9_lease 27 = .ok (.ifCond .eq 12, 3) := by decide +kernel
theorem dX9_lease_30 : decode cX9_lease 30 = .ok (.aload_n 0, 1) := by decide +kernel
theorem dX9_lease_31 : decode cX9_lease 31 = .ok (.iload_n 1, 1) := by decide +kernel
theorem dX9_lease_32 : decode cX9_lease 32 = .ok (.iload_n 2, 1) := by decide +kernel
theorem dX9_lease_33 : decode cX9_lease 33 = .ok (.invokevirtual 53, 3) := by decide +kernel
theorem dX9_lease_36 : decode cX9_lease 36 = .ok (.goto 5, 3) := by decide +kernel
theorem dX9_lease_39 : decode cX9_lease 39 = .ok (.bipush (-2), 2) := by decide +kernel
theorem dX9_lease_41 : decode cX9_lease 41 = .ok (.ireturn, 1) := by decide +kernel
theorem dX9_ask_0 : decode cX9_ask 0 = .ok (.aload_n 0, 1) := by decide +kernel
theorem dX9_ask_1 : decode cX9_ask 1 = .ok (.iload_n 1, 1) := by decide +kernel
theorem dX9_ask_2 : decode cX9_ask 2 = .ok (.invokevirtual 154, 3) := by decide +kernel
theorem dX9_ask_5 : decode cX9_ask 5 = .ok (.ifCond .ne 5, 3) := by decide +kernel
theorem dX9_ask_8 : decode cX9_ask 8 = .ok (.iconst (-1), 1) := by decide +kernel
theorem dX9_ask_9 : decode cX9_ask 9 = .ok (.ireturn, 1) := by decide +kernel
theorem dX9_ask_10 : decode cX9_ask 10 = .ok (.iload_n 2, 1) := by decide +kernel
theorem dX9_ask_11 : decode cX9_ask 11 = .ok (.iconst 1, 1) := by decide +kernel
theorem dX9_ask_12 : decode cX9_ask 12 = .ok (.bipush 20, 2) := by decide +kernel
theorem dX9_ask_14 : decode cX9_ask 14 = .ok (.invokestatic 45, 3) := by decide +kernel
theorem dX9_ask_17 : decode cX9_ask 17 = .ok (.ifCond .ne 8, 3) := by decide +kernel
theorem dX9_ask_20 : decode cX9_ask 20 = .ok (.bipush (-2), 2) := by decide +kernel
theorem dX9_ask_22 : decode cX9_ask 22 = .ok (.goto 23, 3) := by decide +kernel
theorem dX9_ask_25 : decode cX9_ask 25 = .ok (.aload_n 0, 1) := by decide +kernel
theorem dX9_ask_26 : decode cX9_ask 26 = .ok (.iload_n 1, 1) := by decide +kernel
theorem dX9_ask_27 : decode cX9_ask 27 = .ok (.iload_n 2, 1) := by decide +kernel
theorem dX9_ask_28 : decode cX9_ask 28 = .ok (.invokevirtual 166, 3) := by decide +kernel
theorem dX9_ask_31 : decode cX9_ask 31 = .ok (.ifCond .ne 8, 3) := by decide +kernel
theorem dX9_ask_34 : decode cX9_ask 34 = .ok (.bipush (-4), 2) := by decide +kernel
theorem dX9_ask_36 : decode cX9_ask 36 = .ok (.goto 9, 3) := by decide +kernel
theorem dX9_ask_39 : decode cX9_ask 39 = .ok (.aload_n 0, 1) := by decide +kernel
theorem dX9_ask_40 : decode cX9_ask 40 = .ok (.iload_n 1, 1) := by decide +kernel
theorem dX9_ask_41 : decode cX9_ask 41 = .ok (.iload_n 2, 1) := by decide +kernel
theorem dX9_ask_42 : decode cX9_ask 42 = .ok (.invokevirtual 169, 3) := by decide +kernel
theorem dX9_ask_45 : decode cX9_ask 45 = .ok (.ireturn, 1) := by decide +kernel
theorem dX9_overIn_0 : decode cX9_overIn 0 = .ok (.aload_n 0, 1) := by decide +kernel
theorem dX9_overIn_1 : decode cX9_overIn 1 = .ok (.iload_n 1, 1) := by decide +kernel
theorem dX9_overIn_2 : decode cX9_overIn 2 = .ok (.invokevirtual 154, 3) := by decide +kernel
theorem dX9_overIn_5 : decode cX9_overIn 5 = .ok (.ifCond .ne 7, 3) := by decide +kernel
theorem dX9_overIn_8 : decode cX9_overIn 8 = .ok (.iconst (-1), 1) := by decide +kernel
theorem dX9_overIn_9 : decode cX9_overIn 9 = .ok (.goto 17, 3) := by decide +kernel
theorem dX9_overIn_12 : decode cX9_overIn 12 = .ok (.aload_n 0, 1) := by decide +kernel
theorem dX9_overIn_13 : decode cX9_overIn 13 = .ok (.iload_n 1, 1) := by decide +kernel
theorem dX9_overIn_14 : decode cX9_overIn 14 = .ok (.invokevirtual 79, 3) := by decide +kernel
theorem dX9_overIn_17 : decode cX9_overIn 17 = .ok (.ifCond .ne 8, 3) := by decide +kernel
theorem dX9_overIn_20 : decode cX9_overIn 20 = .ok (.bipush (-4), 2) := by decide +kernel
theorem dX9_overIn_22 : decode cX9_overIn 22 = .ok (.goto 4, 3) := by decide +kernel
theorem dX9_overIn_25 : decode cX9_overIn 25 = .ok (.iconst 0, 1) := by decide +kernel
theorem dX9_overIn_26 : decode cX9_overIn 26 = .ok (.istore_n 2, 1) := by decide +kernel
theorem dX9_overIn_27 : decode cX9_overIn 27 = .ok (.iload_n 2, 1) := by decide +kernel
theorem dX9_overIn_28 : decode cX9_overIn 28 = .ok (.ifCond .ge 5, 3) := by decide +kernel
theorem dX9_overIn_31 : decode cX9_overIn 31 = .ok (.iload_n 2, 1) := by decide +kernel
theorem dX9_overIn_32 : decode cX9_overIn 32 = .ok (.ireturn, 1) := by decide +kernel
theorem dX9_overIn_33 : decode cX9_overIn 33 = .ok (.aload_n 0, 1) := by decide +kernel
theorem dX9_overIn_34 : decode cX9_overIn 34 = .ok (.getfield 7, 3) := by decide +kernel
theorem dX9_overIn_37 : decode cX9_overIn 37 = .ok (.iconst 0, 1) := by decide +kernel
theorem dX9_overIn_38 : decode cX9_overIn 38 = .ok (.aload_n 0, 1) := by decide +kernel
theorem dX9_overIn_39 : decode cX9_overIn 39 = .ok (.getfield 13, 3) := by decide +kernel
theorem dX9_overIn_42 : decode cX9_overIn 42 = .ok (.iconst 0, 1) := by decide +kernel
theorem dX9_overIn_43 : decode cX9_overIn 43 = .ok (.invokestatic 41, 3) := by decide +kernel
theorem dX9_overIn_46 : decode cX9_overIn 46 = .ok (.iconst 0, 1) := by decide +kernel
theorem dX9_overIn_47 : decode cX9_overIn 47 = .ok (.istore_n 3, 1) := by decide +kernel
theorem dX9_overIn_48 : decode cX9_overIn 48 = .ok (.iload_n 3, 1) := by decide +kernel
theorem dX9_overIn_49 : decode cX9_overIn 49 = .ok (.sipush 600, 3) := by decide +kernel
theorem dX9_overIn_52 : decode cX9_overIn 52 = .ok (.if_icmp .ge 22, 3) := by decide +kernel
theorem dX9_overIn_55 : decode cX9_overIn 55 = .ok (.aload_n 0, 1) := by decide +kernel
theorem dX9_overIn_56 : decode cX9_overIn 56 = .ok (.iload_n 1, 1) := by decide +kernel
theorem dX9_overIn_57 : decode cX9_overIn 57 = .ok (.invokevirtual 79, 3) := by decide +kernel
theorem dX9_overIn_60 : decode cX9_overIn 60 = .ok (.ifCond .eq 14, 3) := by decide +kernel
theorem dX9_overIn_63 : decode cX9_overIn 63 = .ok (.aload_n 0, 1) := by decide +kernel
theorem dX9_overIn_64 : decode cX9_overIn 64 = .ok (.invokevirtual 142, 3) := by decide +kernel
theorem dX9_overIn_67 : decode cX9_overIn 67 = .ok (.pop, 1) := by decide +kernel
theorem dX9_overIn_68 : decode cX9_overIn 68 = .ok (.iinc 3 1, 3) := by decide +kernel
theorem dX9_overIn_71 : decode cX9_overIn 71 = .ok (.goto (-23), 3) := by decide +kernel
theorem dX9_overIn_74 : decode cX9_overIn 74 = .ok (.aload_n 0, 1) := by decide +kernel
theorem dX9_overIn_75 : decode cX9_overIn 75 = .ok (.iload_n 1, 1) := by decide +kernel
theorem dX9_overIn_76 : decode cX9_overIn 76 = .ok (.bipush 9, 2) := by decide +kernel
theorem dX9_overIn_78 : decode cX9_overIn 78 = .ok (.invokevirtual 49, 3) := by decide +kernel
theorem dX9_overIn_81 : decode cX9_overIn 81 = .ok (.ifCond .ne 7, 3) := by decide +kernel
theorem dX9_overIn_84 : decode cX9_overIn 84 = .ok (.iload_n 3, 1) := by decide +kernel
theorem dX9_overIn_85 : decode cX9_overIn 85 = .ok (.goto 5, 3) := by decide +kernel
theorem dX9_overIn_88 : decode cX9_overIn 88 = .ok (.bipush (-5), 2) := by decide +kernel
theorem dX9_overIn_90 : decode cX9_overIn 90 = .ok (.istore 4, 2) := by decide +kernel
theorem dX9_overIn_92 : decode cX9_overIn 92 = .ok (.aload_n 0, 1) := by decide +kernel
theorem dX9_overIn_93 : decode cX9_overIn 93 = .ok (.getfield 13, 3) := by decide +kernel
theorem dX9_overIn_96 : decode cX9_overIn 96 = .ok (.iconst 0, 1) := by decide +kernel
theorem dX9_overIn_97 : decode cX9_overIn 97 = .ok (.aload_n 0, 1) := by decide +kernel
theorem dX9_overIn_98 : decode cX9_overIn 98 = .ok (.getfield 7, 3) := by decide +kernel
theorem dX9_overIn_101 : decode cX9_overIn 101 = .ok (.iconst 0, 1) := by decide +kernel
theorem dX9_overIn_102 : decode cX9_overIn 102 = .ok (.invokestatic 41, 3) := by decide +kernel
theorem dX9_overIn_105 : decode cX9_overIn 105 = .ok (.iload 4, 2) := by decide +kernel
theorem dX9_overIn_107 : decode cX9_overIn 107 = .ok (.ireturn, 1) := by decide +kernel
theorem dX9_freeIn_0 : decode cX9_freeIn 0 = .ok (.aload_n 0, 1) := by decide +kernel
theorem dX9_freeIn_1 : decode cX9_freeIn 1 = .ok (.iload_n 1, 1) := by decide +kernel
theorem dX9_freeIn_2 : decode cX9_freeIn 2 = .ok (.invokevirtual 154, 3) := by decide +kernel
theorem dX9_freeIn_5 : decode cX9_freeIn 5 = .ok (.ifCond .ne 5, 3) := by decide +kernel
theorem dX9_freeIn_8 : decode cX9_freeIn 8 = .ok (.iconst (-1), 1) := by decide +kernel
theorem dX9_freeIn_9 : decode cX9_freeIn 9 = .ok (.ireturn, 1) := by decide +kernel
theorem dX9_freeIn_10 : decode cX9_freeIn 10 = .ok (.aload_n 0, 1) := by decide +kernel
theorem dX9_freeIn_11 : decode cX9_freeIn 11 = .ok (.getfield 7, 3) := by decide +kernel
theorem dX9_freeIn_14 : decode cX9_freeIn 14 = .ok (.iconst 0, 1) := by decide +kernel
theorem dX9_freeIn_15 : decode cX9_freeIn 15 = .ok (.aload_n 0, 1) := by decide +kernel
theorem dX9_freeIn_16 : decode cX9_freeIn 16 = .ok (.getfield 13, 3) := by decide +kernel
theorem dX9_freeIn_19 : decode cX9_freeIn 19 = .ok (.iconst 0, 1) := by decide +kernel
theorem dX9_freeIn_20 : decode cX9_freeIn 20 = .ok (.invokestatic 41, 3) := by decide +kernel
theorem dX9_freeIn_23 : decode cX9_freeIn 23 = .ok (.iconst 0, 1) := by decide +kernel
theorem dX9_freeIn_24 : decode cX9_freeIn 24 = .ok (.istore_n 2, 1) := by decide +kernel
theorem dX9_freeIn_25 : decode cX9_freeIn 25 = .ok (.iload_n 2, 1) := by decide +kernel
theorem dX9_freeIn_26 : decode cX9_freeIn 26 = .ok (.sipush 600, 3) := by decide +kernel
theorem dX9_freeIn_29 : decode cX9_freeIn 29 = .ok (.if_icmp .ge 25, 3) := by decide +kernel
theorem dX9_freeIn_32 : decode cX9_freeIn 32 = .ok (.aload_n 0, 1) := by decide +kernel
theorem dX9_freeIn_33 : decode cX9_freeIn 33 = .ok (.iload_n 1, 1) := by decide +kernel
theorem dX9_freeIn_34 : decode cX9_freeIn 34 = .ok (.bipush 13, 2) := by decide +kernel
theorem dX9_freeIn_36 : decode cX9_freeIn 36 = .ok (.invokevirtual 49, 3) := by decide +kernel
theorem dX9_freeIn_39 : decode cX9_freeIn 39 = .ok (.iconst 2, 1) := by decide +kernel
theorem dX9_freeIn_40 : decode cX9_freeIn 40 = .ok (.if_icmp .ne 14, 3) := by decide +kernel
theorem dX9_freeIn_43 : decode cX9_freeIn 43 = .ok (.aload_n 0, 1) := by decide +kernel
theorem dX9_freeIn_44 : decode cX9_freeIn 44 = .ok (.invokevirtual 142, 3) := by decide +kernel
theorem dX9_freeIn_47 : decode cX9_freeIn 47 = .ok (.pop, 1) := by decide +kernel
theorem dX9_freeIn_48 : decode cX9_freeIn 48 = .ok (.iinc 2 1, 3) := by decide +kernel
theorem dX9_freeIn_51 : decode cX9_freeIn 51 = .ok (.goto (-26), 3) := by decide +kernel
theorem dX9_freeIn_54 : decode cX9_freeIn 54 = .ok (.aload_n 0, 1) := by decide +kernel
theorem dX9_freeIn_55 : decode cX9_freeIn 55 = .ok (.iload_n 1, 1) := by decide +kernel
theorem dX9_freeIn_56 : decode cX9_freeIn 56 = .ok (.bipush 13, 2) := by decide +kernel
theorem dX9_freeIn_58 : decode cX9_freeIn 58 = .ok (.invokevirtual 49, 3) := by decide +kernel
theorem dX9_freeIn_61 : decode cX9_freeIn 61 = .ok (.iconst 2, 1) := by decide +kernel
theorem dX9_freeIn_62 : decode cX9_freeIn 62 = .ok (.if_icmp .ne 8, 3) := by decide +kernel
theorem dX9_freeIn_65 : decode cX9_freeIn 65 = .ok (.bipush (-5), 2) := by decide +kernel
theorem dX9_freeIn_67 : decode cX9_freeIn 67 = .ok (.goto 4, 3) := by decide +kernel
theorem dX9_freeIn_70 : decode cX9_freeIn 70 = .ok (.iload_n 2, 1) := by decide +kernel
theorem dX9_freeIn_71 : decode cX9_freeIn 71 = .ok (.istore_n 3, 1) := by decide +kernel
theorem dX9_freeIn_72 : decode cX9_freeIn 72 = .ok (.aload_n 0, 1) := by decide +kernel
theorem dX9_freeIn_73 : decode cX9_freeIn 73 = .ok (.getfield 13, 3) := by decide +kernel
theorem dX9_freeIn_76 : decode cX9_freeIn 76 = .ok (.iconst 0, 1) := by decide +kernel
theorem dX9_freeIn_77 : decode cX9_freeIn 77 = .ok (.aload_n 0, 1) := by decide +kernel
theorem dX9_freeIn_78 : decode cX9_freeIn 78 = .ok (.getfield 7, 3) := by decide +kernel
theorem dX9_freeIn_81 : decode cX9_freeIn 81 = .ok (.iconst 0, 1) := by decide +kernel
theorem dX9_freeIn_82 : decode cX9_freeIn 82 = .ok (.invokestatic 41, 3) := by decide +kernel
theorem dX9_freeIn_85 : decode cX9_freeIn 85 = .ok (.iload_n 3, 1) := by decide +kernel
theorem dX9_freeIn_86 : decode cX9_freeIn 86 = .ok (.ireturn, 1) := by decide +kernel
theorem dX9_doorsThat_0 : decode cX9_doorsThat 0 = .ok (.iconst 0, 1) := by decide +kernel
theorem dX9_doorsThat_1 : decode cX9_doorsThat 1 = .ok (.istore_n 2, 1) := by decide +kernel
theorem dX9_doorsThat_2 : decode cX9_doorsThat 2 = .ok (.iconst 0, 1) := by decide +kernel
theorem dX9_doorsThat_3 : decode cX9_doorsThat 3 = .ok (.istore_n 3, 1) := by decide +kernel
theorem dX9_doorsThat_4 : decode cX9_doorsThat 4 = .ok (.iload_n 3, 1) := by decide +kernel
theorem dX9_doorsThat_5 : decode cX9_doorsThat 5 = .ok (.aload_n 0, 1) := by decide +kernel
theorem dX9_doorsThat_6 : decode cX9_doorsThat 6 = .ok (.getfield 7, 3) := by decide +kernel
theorem dX9_doorsThat_9 : decode cX9_doorsThat 9 = .ok (.iconst 2, 1) := by decide +kernel
theorem dX9_doorsThat_10 : decode cX9_doorsThat 10 = .ok (.iaload, 1) := by decide +kernel
theorem dX9_doorsThat_11 : decode cX9_doorsThat 11 = .ok (.if_icmp .ge 28, 3) := by decide +kernel
theorem dX9_doorsThat_14 : decode cX9_doorsThat 14 = .ok (.iload_n 2, 1) := by decide +kernel
theorem dX9_doorsThat_15 : decode cX9_doorsThat 15 = .ok (.aload_n 0, 1) := by decide +kernel
theorem dX9_doorsThat_16 : decode cX9_doorsThat 16 = .ok (.iload_n 3, 1) := by decide +kernel
theorem dX9_doorsThat_17 : decode cX9_doorsThat 17 = .ok (.bipush 13, 2) := by decide +kernel
theorem dX9_doorsThat_19 : decode cX9_doorsThat 19 = .ok (.invokevirtual 49, 3) := by decide +kernel
theorem dX9_doorsThat_22 : decode cX9_doorsThat 22 = .ok (.iload_n 1, 1) := by decide +kernel
theorem dX9_doorsThat_23 : decode cX9_doorsThat 23 = .ok (.if_icmp .ne 7, 3) := by decide +kernel
theorem dX9_doorsThat_26 : decode cX9_doorsThat 26 = .ok (.iconst 1, 1) := by decide +kernel
theorem dX9_doorsThat_27 : decode cX9_doorsThat 27 = .ok (.goto 4, 3) := by decide +kernel
theorem dX9_doorsThat_30 : decode cX9_doorsThat 30 = .ok (.iconst 0, 1) := by decide +kernel
theorem dX9_doorsThat_31 : decode cX9_doorsThat 31 = .ok (.iadd, 1) := by decide +kernel
theorem dX9_doorsThat_32 : decode cX9_doorsThat 32 = .ok (.istore_n 2, 1) := by decide +kernel
theorem dX9_doorsThat_33 : decode cX9_doorsThat 33 = .ok (.iinc 3 1, 3) := by decide +kernel
theorem dX9_doorsThat_36 : decode cX9_doorsThat 36 = .ok (.goto (-32), 3) := by decide +kernel
theorem dX9_doorsThat_39 : decode cX9_doorsThat 39 = .ok (.iload_n 2, 1) := by decide +kernel
theorem dX9_doorsThat_40 : decode cX9_doorsThat 40 = .ok (.ireturn, 1) := by decide +kernel
theorem dX9_count_0 : decode cX9_count 0 = .ok (.iconst 0, 1) := by decide +kernel
theorem dX9_count_1 : decode cX9_count 1 = .ok (.istore_n 2, 1) := by decide +kernel
theorem dX9_count_2 : decode cX9_count 2 = .ok (.iconst 0, 1) := by decide +kernel
theorem dX9_count_3 : decode cX9_count 3 = .ok (.istore_n 3, 1) := by decide +kernel
theorem dX9_count_4 : decode cX9_count 4 = .ok (.iload_n 3, 1) := by decide +kernel
theorem dX9_count_5 : decode cX9_count 5 = .ok (.aload_n 0, 1) := by decide +kernel
theorem dX9_count_6 : decode cX9_count 6 = .ok (.getfield 7, 3) := by decide +kernel
theorem dX9_count_9 : decode cX9_count 9 = .ok (.iconst 2, 1) := by decide +kernel
theorem dX9_count_10 : decode cX9_count 10 = .ok (.iaload, 1) := by decide +kernel
theorem dX9_count_11 : decode cX9_count 11 = .ok (.if_icmp .ge 17, 3) := by decide +kernel
theorem dX9_count_14 : decode cX9_count 14 = .ok (.iload_n 2, 1) := by decide +kernel
theorem dX9_count_15 : decode cX9_count 15 = .ok (.aload_n 0, 1) := by decide +kernel
theorem dX9_count_16 : decode cX9_count 16 = .ok (.iload_n 3, 1) := by decide +kernel
theorem dX9_count_17 : decode cX9_count 17 = .ok (.invokevirtual 91, 3) := by decide +kernel
theorem dX9_count_20 : decode cX9_count 20 = .ok (.iadd, 1) := by decide +kernel
theorem dX9_count_21 : decode cX9_count 21 = .ok (.istore_n 2, 1) := by decide +kernel
theorem dX9_count_22 : decode cX9_count 22 = .ok (.iinc 3 1, 3) := by decide +kernel
theorem dX9_count_25 : decode cX9_count 25 = .ok (.goto (-21), 3) := by decide +kernel
theorem dX9_count_28 : decode cX9_count 28 = .ok (.iload_n 1, 1) := by decide +kernel
theorem dX9_count_29 : decode cX9_count 29 = .ok (.tableswitch 133 0 14 #[75, 75, 75, 84, 90, 96, 102, 108, 108, 108, 108, 108, 121, 123, 128], 75) := by decide +kernel
theorem dX9_count_104 : decode cX9_count 104 = .ok (.aload_n 0, 1) := by decide +kernel
theorem dX9_count_105 : decode cX9_count 105 = .ok (.getfield 7, 3) := by decide +kernel
theorem dX9_count_108 : decode cX9_count 108 = .ok (.iconst 0, 1) := by decide +kernel
theorem dX9_count_109 : decode cX9_count 109 = .ok (.iload_n 1, 1) := by decide +kernel
theorem dX9_count_110 : decode cX9_count 110 = .ok (.iadd, 1) := by decide +kernel
theorem dX9_count_111 : decode cX9_count 111 = .ok (.iaload, 1) := by decide +kernel
theorem dX9_count_112 : decode cX9_count 112 = .ok (.ireturn, 1) := by decide +kernel
theorem dX9_count_113 : decode cX9_count 113 = .ok (.aload_n 0, 1) := by decide +kernel
theorem dX9_count_114 : decode cX9_count 114 = .ok (.iconst 1, 1) := by decide +kernel
theorem dX9_count_115 : decode cX9_count 115 = .ok (.invokevirtual 85, 3) := by decide +kernel
theorem dX9_count_118 : decode cX9_count 118 = .ok (.ireturn, 1) := by decide +kernel
theorem dX9_count_119 : decode cX9_count 119 = .ok (.aload_n 0, 1) := by decide +kernel
theorem dX9_count_120 : decode cX9_count 120 = .ok (.iconst 2, 1) := by decide +kernel
theorem dX9_count_121 : decode cX9_count 121 = .ok (.invokevirtual 85, 3) := by decide +kernel
theorem dX9_count_124 : decode cX9_count 124 = .ok (.ireturn, 1) := by decide +kernel
theorem dX9_count_125 : decode cX9_count 125 = .ok (.aload_n 0, 1) := by decide +kernel
theorem dX9_count_126 : decode cX9_count 126 = .ok (.iconst 2, 1) := by decide +kernel
theorem dX9_count_127 : decode cX9_count 127 = .ok (.invokevirtual 179, 3) := by decide +kernel
theorem dX9_count_130 : decode cX9_count 130 = .ok (.ireturn, 1) := by decide +kernel
theorem dX9_count_131 : decode cX9_count 131 = .ok (.aload_n 0, 1) := by decide +kernel
theorem dX9_count_132 : decode cX9_count 132 = .ok (.iconst 0, 1) := by decide +kernel
theorem dX9_count_133 : decode cX9_count 133 = .ok (.invokevirtual 179, 3) := by decide +kernel
theorem dX9_count_136 : decode cX9_count 136 = .ok (.ireturn, 1) := by decide +kernel
theorem dX9_count_137 : decode cX9_count 137 = .ok (.aload_n 0, 1) := by decide +kernel
theorem dX9_count_138 : decode cX9_count 138 = .ok (.getfield 7, 3) := by decide +kernel
theorem dX9_count_141 : decode cX9_count 141 = .ok (.bipush 8, 2) := by decide +kernel
theorem dX9_count_143 : decode cX9_count 143 = .ok (.iload_n 1, 1) := by decide +kernel
theorem dX9_count_144 : decode cX9_count 144 = .ok (.iadd, 1) := by decide +kernel
theorem dX9_count_145 : decode cX9_count 145 = .ok (.bipush 7, 2) := by decide +kernel
theorem dX9_count_147 : decode cX9_count 147 = .ok (.isub, 1) := by decide +kernel
theorem dX9_count_148 : decode cX9_count 148 = .ok (.iaload, 1) := by decide +kernel
theorem dX9_count_149 : decode cX9_count 149 = .ok (.ireturn, 1) := by decide +kernel
theorem dX9_count_150 : decode cX9_count 150 = .ok (.iload_n 2, 1) := by decide +kernel
theorem dX9_count_151 : decode cX9_count 151 = .ok (.ireturn, 1) := by decide +kernel
theorem dX9_count_152 : decode cX9_count 152 = .ok (.aload_n 0, 1) := by decide +kernel
theorem dX9_count_153 : decode cX9_count 153 = .ok (.getfield 37, 3) := by decide +kernel
theorem dX9_count_156 : decode cX9_count 156 = .ok (.ireturn, 1) := by decide +kernel
theorem dX9_count_157 : decode cX9_count 157 = .ok (.aload_n 0, 1) := by decide +kernel
theorem dX9_count_158 : decode cX9_count 158 = .ok (.getfield 145, 3) := by decide +kernel
theorem dX9_count_161 : decode cX9_count 161 = .ok (.ireturn, 1) := by decide +kernel
theorem dX9_count_162 : decode cX9_count 162 = .ok (.bipush (-2), 2) := by decide +kernel
theorem dX9_count_164 : decode cX9_count 164 = .ok (.ireturn, 1) := by decide +kernel
theorem dL_law_0 : decode cL_law 0 = .ok (.new 7, 3) := by decide +kernel
theorem dL_law_3 : decode cL_law 3 = .ok (.dup, 1) := by decide +kernel
theorem dL_law_4 : decode cL_law 4 = .ok (.invokespecial 9, 3) := by decide +kernel
theorem dL_law_7 : decode cL_law 7 = .ok (.astore_n 1, 1) := by decide +kernel
theorem dL_law_8 : decode cL_law 8 = .ok (.new 10, 3) := by decide +kernel
theorem dL_law_11 : decode cL_law 11 = .ok (.dup, 1) := by decide +kernel
theorem dL_law_12 : decode cL_law 12 = .ok (.invokespecial 12, 3) := by decide +kernel
theorem dL_law_15 : decode cL_law 15 = .ok (.astore_n 2, 1) := by decide +kernel
theorem dL_law_16 : decode cL_law 16 = .ok (.iconst 0, 1) := by decide +kernel
theorem dL_law_17 : decode cL_law 17 = .ok (.istore_n 3, 1) := by decide +kernel
theorem dL_law_18 : decode cL_law 18 = .ok (.iload_n 3, 1) := by decide +kernel
theorem dL_law_19 : decode cL_law 19 = .ok (.aload_n 0, 1) := by decide +kernel
theorem dL_law_20 : decode cL_law 20 = .ok (.arraylength, 1) := by decide +kernel
theorem dL_law_21 : decode cL_law 21 = .ok (.bipush 6, 2) := by decide +kernel
theorem dL_law_23 : decode cL_law 23 = .ok (.isub, 1) := by decide +kernel
theorem dL_law_24 : decode cL_law 24 = .ok (.if_icmp .gt 840, 3) := by decide +kernel
theorem dL_law_27 : decode cL_law 27 = .ok (.aload_n 0, 1) := by decide +kernel
theorem dL_law_28 : decode cL_law 28 = .ok (.iload_n 3, 1) := by decide +kernel
theorem dL_law_29 : decode cL_law 29 = .ok (.iaload, 1) := by decide +kernel
theorem dL_law_30 : decode cL_law 30 = .ok (.bipush 31, 2) := by decide +kernel
theorem dL_law_32 : decode cL_law 32 = .ok (.iand, 1) := by decide +kernel
theorem dL_law_33 : decode cL_law 33 = .ok (.tableswitch 825 0 25 #[119, 162, 195, 234, 257, 282, 295, 318, 341, 364, 387, 410, 433, 496, 509, 522, 535, 568, 601, 644, 667, 690, 723, 756, 779, 802], 119) := by decide +kernel
theorem dL_law_152 : decode cL_law 152 = .ok (.aload_n 1, 1) := by decide +kernel
theorem dL_law_153 : decode cL_law 153 = .ok (.aload_n 0, 1) := by decide +kernel
theorem dL_law_154 : decode cL_law 154 = .ok (.iload_n 3, 1) := by decide +kernel
theorem dL_law_155 : decode cL_law 155 = .ok (.iconst 1, 1) := by decide +kernel
theorem dL_law_156 : decode cL_law 156 = .ok (.iadd, 1) := by decide +kernel
theorem dL_law_157 : decode cL_law 157 = .ok (.iaload, 1) := by decide +kernel
theorem dL_law_158 : decode cL_law 158 = .ok (.aload_n 0, 1) := by decide +kernel
theorem dL_law_159 : decode cL_law 159 = .ok (.iload_n 3, 1) := by decide +kernel
theorem dL_law_160 : decode cL_law 160 = .ok (.iconst 2, 1) := by decide +kernel
theorem dL_law_161 : decode cL_law 161 = .ok (.iadd, 1) := by decide +kernel
theorem dL_law_162 : decode cL_law 162 = .ok (.iaload, 1) := by decide +kernel
theorem dL_law_163 : decode cL_law 163 = .ok (.aload_n 0, 1) := by decide +kernel
theorem dL_law_164 : decode cL_law 164 = .ok (.iload_n 3, 1) := by decide +kernel
theorem dL_law_165 : decode cL_law 165 = .ok (.iconst 3, 1) := by decide +kernel
theorem dL_law_166 : decode cL_law 166 = .ok (.iadd, 1) := by decide +kernel
theorem dL_law_167 : decode cL_law 167 = .ok (.iaload, 1) := by decide +kernel
theorem dL_law_168 : decode cL_law 168 = .ok (.invokevirtual 13, 3) := by decide +kernel
theorem dL_law_171 : decode cL_law 171 = .ok (.aload_n 2, 1) := by decide +kernel
theorem dL_law_172 : decode cL_law 172 = .ok (.aload_n 0, 1) := by decide +kernel
theorem dL_law_173 : decode cL_law 173 = .ok (.iload_n 3, 1) := by decide +kernel
theorem dL_law_174 : decode cL_law 174 = .ok (.iconst 1, 1) := by decide +kernel
theorem dL_law_175 : decode cL_law 175 = .ok (.iadd, 1) := by decide +kernel
theorem dL_law_176 : decode cL_law 176 = .ok (.iaload, 1) := by decide +kernel
theorem dL_law_177 : decode cL_law 177 = .ok (.aload_n 0, 1) := by decide +kernel
theorem dL_law_178 : decode cL_law 178 = .ok (.iload_n 3, 1) := by decide +kernel
theorem dL_law_179 : decode cL_law 179 = .ok (.iconst 2, 1) := by decide +kernel
theorem dL_law_180 : decode cL_law 180 = .ok (.iadd, 1) := by decide +kernel
theorem dL_law_181 : decode cL_law 181 = .ok (.iaload, 1) := by decide +kernel
theorem dL_law_182 : decode cL_law 182 = .ok (.aload_n 0, 1) := by decide +kernel
theorem dL_law_183 : decode cL_law 183 = .ok (.iload_n 3, 1) := by decide +kernel
theorem dL_law_184 : decode cL_law 184 = .ok (.iconst 3, 1) := by decide +kernel
theorem dL_law_185 : decode cL_law 185 = .ok (.iadd, 1) := by decide +kernel
theorem dL_law_186 : decode cL_law 186 = .ok (.iaload, 1) := by decide +kernel
theorem dL_law_187 : decode cL_law 187 = .ok (.invokevirtual 17, 3) := by decide +kernel
theorem dL_law_190 : decode cL_law 190 = .ok (.if_icmp .eq 668, 3) := by decide +kernel
theorem dL_law_193 : decode cL_law 193 = .ok (.iconst 0, 1) := by decide +kernel
theorem dL_law_194 : decode cL_law 194 = .ok (.ireturn, 1) := by decide +kernel
theorem dL_law_195 : decode cL_law 195 = .ok (.aload_n 1, 1) := by decide +kernel
theorem dL_law_196 : decode cL_law 196 = .ok (.aload_n 0, 1) := by decide +kernel
theorem dL_law_197 : decode cL_law 197 = .ok (.iload_n 3, 1) := by decide +kernel
theorem dL_law_198 : decode cL_law 198 = .ok (.iconst 1, 1) := by decide +kernel
theorem dL_law_199 : decode cL_law 199 = .ok (.iadd, 1) := by decide +kernel
theorem dL_law_200 : decode cL_law 200 = .ok (.iaload, 1) := by decide +kernel
theorem dL_law_201 : decode cL_law 201 = .ok (.aload_n 0, 1) := by decide +kernel
theorem dL_law_202 : decode cL_law 202 = .ok (.iload_n 3, 1) := by decide +kernel
theorem dL_law_203 : decode cL_law 203 = .ok (.iconst 2, 1) := by decide +kernel
theorem dL_law_204 : decode cL_law 204 = .ok (.iadd, 1) := by decide +kernel
theorem dL_law_205 : decode cL_law 205 = .ok (.iaload, 1) := by decide +kernel
theorem dL_law_206 : decode cL_law 206 = .ok (.invokevirtual 18, 3) := by decide +kernel
theorem dL_law_209 : decode cL_law 209 = .ok (.aload_n 2, 1) := by decide +kernel
theorem dL_law_210 : decode cL_law 210 = .ok (.aload_n 0, 1) := by decide +kernel
theorem dL_law_211 : decode cL_law 211 = .ok (.iload_n 3, 1) := by decide +kernel
theorem dL_law_212 : decode cL_law 212 = .ok (.iconst 1, 1) := by decide +kernel
theorem dL_law_213 : decode cL_law 213 = .ok (.iadd, 1) := by decide +kernel
theorem dL_law_214 : decode cL_law 214 = .ok (.iaload, 1) := by decide +kernel
theorem dL_law_215 : decode cL_law 215 = .ok (.aload_n 0, 1) := by decide +kernel
theorem dL_law_216 : decode cL_law 216 = .ok (.iload_n 3, 1) := by decide +kernel
theorem dL_law_217 : decode cL_law 217 = .ok (.iconst 2, 1) := by decide +kernel
theorem dL_law_218 : decode cL_law 218 = .ok (.iadd, 1) := by decide +kernel
theorem dL_law_219 : decode cL_law 219 = .ok (.iaload, 1) := by decide +kernel
theorem dL_law_220 : decode cL_law 220 = .ok (.invokevirtual 22, 3) := by decide +kernel
theorem dL_law_223 : decode cL_law 223 = .ok (.if_icmp .eq 635, 3) := by decide +kernel
theorem dL_law_226 : decode cL_law 226 = .ok (.iconst 0, 1) := by decide +kernel
theorem dL_law_227 : decode cL_law 227 = .ok (.ireturn, 1) := by decide +kernel
theorem dL_law_228 : decode cL_law 228 = .ok (.aload_n 1, 1) := by decide +kernel
theorem dL_law_229 : decode cL_law 229 = .ok (.aload_n 0, 1) := by decide +kernel
theorem dL_law_230 : decode cL_law 230 = .ok (.iload_n 3, 1) := by decide +kernel
theorem dL_law_231 : decode cL_law 231 = .ok (.iconst 1, 1) := by decide +kernel
theorem dL_law_232 : decode cL_law 232 = .ok (.iadd, 1) := by decide +kernel
theorem dL_law_233 : decode cL_law 233 = .ok (.iaload, 1) := by decide +kernel
theorem dL_law_234 : decode cL_law 234 = .ok (.ifCond .eq 7, 3) := by decide +kernel
theorem dL_law_237 : decode cL_law 237 = .ok (.iconst 1, 1) := by decide +kernel
theorem dL_law_238 : decode cL_law 238 = .ok (.goto 4, 3) := by decide +kernel
theorem dL_law_241 : decode cL_law 241 = .ok (.iconst 0, 1) := by decide +kernel
theorem dL_law_242 : decode cL_law 242 = .ok (.invokevirtual 23, 3) := by decide +kernel
theorem dL_law_245 : decode cL_law 245 = .ok (.aload_n 2, 1) := by decide +kernel
theorem dL_law_246 : decode cL_law 246 = .ok (.aload_n 0, 1) := by decide +kernel
theorem dL_law_247 : decode cL_law 247 = .ok (.iload_n 3, 1) := by decide +kernel
theorem dL_law_248 : decode cL_law 248 = .ok (.iconst 1, 1) := by decide +kernel
theorem dL_law_249 : decode cL_law 249 = .ok (.iadd, 1) := by decide +kernel
theorem dL_law_250 : decode cL_law 250 = .ok (.iaload, 1) := by decide +kernel
theorem dL_law_251 : decode cL_law 251 = .ok (.ifCond .eq 7, 3) := by decide +kernel
theorem dL_law_254 : decode cL_law 254 = .ok (.iconst 1, 1) := by decide +kernel
theorem dL_law_255 : decode cL_law 255 = .ok (.goto 4, 3) := by decide +kernel
theorem dL_law_258 : decode cL_law 258 = .ok (.iconst 0, 1) := by decide +kernel
theorem dL_law_259 : decode cL_law 259 = .ok (.invokevirtual 27, 3) := by decide +kernel
theorem dL_law_262 : decode cL_law 262 = .ok (.if_icmp .eq 596, 3) := by decide +kernel
theorem dL_law_265 : decode cL_law 265 = .ok (.iconst 0, 1) := by decide +kernel
theorem dL_law_266 : decode cL_law 266 = .ok (.ireturn, 1) := by decide +kernel
theorem dL_law_267 : decode cL_law 267 = .ok (.aload_n 1, 1) := by decide +kernel
theorem dL_law_268 : decode cL_law 268 = .ok (.aload_n 0, 1) := by decide +kernel
theorem dL_law_269 : decode cL_law 269 = .ok (.iload_n 3, 1) := by decide +kernel
theorem dL_law_270 : decode cL_law 270 = .ok (.iconst 1, 1) := by decide +kernel
theorem dL_law_271 : decode cL_law 271 = .ok (.iadd, 1) := by decide +kernel
theorem dL_law_272 : decode cL_law 272 = .ok (.iaload, 1) := by decide +kernel
theorem dL_law_273 : decode cL_law 273 = .ok (.invokevirtual 28, 3) := by decide +kernel
theorem dL_law_276 : decode cL_law 276 = .ok (.aload_n 2, 1) := by decide +kernel
theorem dL_law_277 : decode cL_law 277 = .ok (.aload_n 0, 1) := by decide +kernel
theorem dL_law_278 : decode cL_law 278 = .ok (.iload_n 3, 1) := by decide +kernel
theorem dL_law_279 : decode cL_law 279 = .ok (.iconst 1, 1) := by decide +kernel
theorem dL_law_280 : decode cL_law 280 = .ok (.iadd, 1) := by decide +kernel
theorem dL_law_281 : decode cL_law 281 = .ok (.iaload, 1) := by decide +kernel
theorem dL_law_282 : decode cL_law 282 = .ok (.invokevirtual 32, 3) := by decide +kernel
theorem dL_law_285 : decode cL_law 285 = .ok (.if_icmp .eq 573, 3) := by decide +kernel
theorem dL_law_288 : decode cL_law 288 = .ok (.iconst 0, 1) := by decide +kernel
theorem dL_law_289 : decode cL_law 289 = .ok (.ireturn, 1) := by decide +kernel
theorem dL_law_290 : decode cL_law 290 = .ok (.aload_n 1, 1) := by decide +kernel
theorem dL_law_291 : decode cL_law 291 = .ok (.aload_n 0, 1) := by decide +kernel
theorem dL_law_292 : decode cL_law 292 = .ok (.iload_n 3, 1) := by decide +kernel
theorem dL_law_293 : decode cL_law 293 = .ok (.iconst 1, 1) := by decide +kernel
theorem dL_law_294 : decode cL_law 294 = .ok (.iadd, 1) := by decide +kernel
theorem dL_law_295 : decode cL_law 295 = .ok (.iaload, 1) := by decide +kernel
theorem dL_law_296 : decode cL_law 296 = .ok (.i2c, 1) := by decide +kernel
theorem dL_law_297 : decode cL_law 297 = .ok (.invokevirtual 33, 3) := by decide +kernel
theorem dL_law_300 : decode cL_law 300 = .ok (.aload_n 2, 1) := by decide +kernel
theorem dL_law_301 : decode cL_law 301 = .ok (.aload_n 0, 1) := by decide +kernel
theorem dL_law_302 : decode cL_law 302 = .ok (.iload_n 3, 1) := by decide +kernel
theorem dL_law_303 : decode cL_law 303 = .ok (.iconst 1, 1) := by decide +kernel
theorem dL_law_304 : decode cL_law 304 = .ok (.iadd, 1) := by decide +kernel
theorem dL_law_305 : decode cL_law 305 = .ok (.iaload, 1) := by decide +kernel
theorem dL_law_306 : decode cL_law 306 = .ok (.i2c, 1) := by decide +kernel
theorem dL_law_307 : decode cL_law 307 = .ok (.invokevirtual 37, 3) := by decide +kernel
theorem dL_law_310 : decode cL_law 310 = .ok (.if_icmp .eq 548, 3) := by decide +kernel
theorem dL_law_313 : decode cL_law 313 = .ok (.iconst 0, 1) := by decide +kernel
theorem dL_law_314 : decode cL_law 314 = .ok (.ireturn, 1) := by decide +kernel
theorem dL_law_315 : decode cL_law 315 = .ok (.aload_n 1, 1) := by decide +kernel
theorem dL_law_316 : decode cL_law 316 = .ok (.invokevirtual 38, 3) := by decide +kernel
theorem dL_law_319 : decode cL_law 319 = .ok (.aload_n 2, 1) := by decide +kernel
theorem dL_law_320 : decode cL_law 320 = .ok (.invokevirtual 42, 3) := by decide +kernel
theorem dL_law_323 : decode cL_law 323 = .ok (.if_icmp .eq 535, 3) := by decide +kernel
theorem dL_law_326 : decode cL_law 326 = .ok (.iconst 0, 1) := by decide +kernel
theorem dL_law_327 : decode cL_law 327 = .ok (.ireturn, 1) := by decide +kernel
theorem dL_law_328 : decode cL_law 328 = .ok (.aload_n 1, 1) := by decide +kernel
theorem dL_law_329 : decode cL_law 329 = .ok (.aload_n 0, 1) := by decide +kernel
theorem dL_law_330 : decode cL_law 330 = .ok (.iload_n 3, 1) := by decide +kernel
theorem dL_law_331 : decode cL_law 331 = .ok (.iconst 1, 1) := by decide +kernel
theorem dL_law_332 : decode cL_law 332 = .ok (.iadd, 1) := by decide +kernel
theorem dL_law_333 : decode cL_law 333 = .ok (.iaload, 1) := by decide +kernel
theorem dL_law_334 : decode cL_law 334 = .ok (.invokevirtual 43, 3) := by decide +kernel
theorem dL_law_337 : decode cL_law 337 = .ok (.aload_n 2, 1) := by decide +kernel
theorem dL_law_338 : decode cL_law 338 = .ok (.aload_n 0, 1) := by decide +kernel
theorem dL_law_339 : decode cL_law 339 = .ok (.iload_n 3, 1) := by decide +kernel
theorem dL_law_340 : decode cL_law 340 = .ok (.iconst 1, 1) := by decide +kernel
theorem dL_law_341 : decode cL_law 341 = .ok (.iadd, 1) := by decide +kernel
theorem dL_law_342 : decode cL_law 342 = .ok (.iaload, 1) := by decide +kernel
theorem dL_law_343 : decode cL_law 343 = .ok (.invokevirtual 46, 3) := by decide +kernel
theorem dL_law_346 : decode cL_law 346 = .ok (.if_icmp .eq 512, 3) := by decide +kernel
theorem dL_law_349 : decode cL_law 349 = .ok (.iconst 0, 1) := by decide +kernel
theorem dL_law_350 : decode cL_law 350 = .ok (.ireturn, 1) := by decide +kernel
theorem dL_law_351 : decode cL_law 351 = .ok (.aload_n 1, 1) := by decide +kernel
theorem dL_law_352 : decode cL_law 352 = .ok (.aload_n 0, 1) := by decide +kernel
theorem dL_law_353 : decode cL_law 353 = .ok (.iload_n 3, 1) := by decide +kernel
theorem dL_law_354 : decode cL_law 354 = .ok (.iconst 1, 1) := by decide +kernel
theorem dL_law_355 : decode cL_law 355 = .ok (.iadd, 1) := by decide +kernel
theorem dL_law_356 : decode cL_law 356 = .ok (.iaload, 1) := by decide +kernel
theorem dL_law_357 : decode cL_law 357 = .ok (.invokevirtual 47, 3) := by decide +kernel
theorem dL_law_360 : decode cL_law 360 = .ok (.aload_n 2, 1) := by decide +kernel
theorem dL_law_361 : decode cL_law 361 = .ok (.aload_n 0, 1) := by decide +kernel
theorem dL_law_362 : decode cL_law 362 = .ok (.iload_n 3, 1) := by decide +kernel
theorem dL_law_363 : decode cL_law 363 = .ok (.iconst 1, 1) := by decide +kernel
theorem dL_law_364 : decode cL_law 364 = .ok (.iadd, 1) := by decide +kernel
theorem dL_law_365 : decode cL_law 365 = .ok (.iaload, 1) := by decide +kernel
theorem dL_law_366 : decode cL_law 366 = .ok (.invokevirtual 50, 3) := by decide +kernel
theorem dL_law_369 : decode cL_law 369 = .ok (.if_icmp .eq 489, 3) := by decide +kernel
theorem dL_law_372 : decode cL_law 372 = .ok (.iconst 0, 1) := by decide +kernel
theorem dL_law_373 : decode cL_law 373 = .ok (.ireturn, 1) := by decide +kernel
theorem dL_law_374 : decode cL_law 374 = .ok (.aload_n 1, 1) := by decide +kernel
theorem dL_law_375 : decode cL_law 375 = .ok (.aload_n 0, 1) := by decide +kernel
theorem dL_law_376 : decode cL_law 376 = .ok (.iload_n 3, 1) := by decide +kernel
theorem dL_law_377 : decode cL_law 377 = .ok (.iconst 1, 1) := by decide +kernel
theorem dL_law_378 : decode cL_law 378 = .ok (.iadd, 1) := by decide +kernel
theorem dL_law_379 : decode cL_law 379 = .ok (.iaload, 1) := by decide +kernel
theorem dL_law_380 : decode cL_law 380 = .ok (.invokevirtual 51, 3) := by decide +kernel
theorem dL_law_383 : decode cL_law 383 = .ok (.aload_n 2, 1) := by decide +kernel
theorem dL_law_384 : decode cL_law 384 = .ok (.aload_n 0, 1) := by decide +kernel
theorem dL_law_385 : decode cL_law 385 = .ok (.iload_n 3, 1) := by decide +kernel
theorem dL_law_386 : decode cL_law 386 = .ok (.iconst 1, 1) := by decide +kernel
theorem dL_law_387 : decode cL_law 387 = .ok (.iadd, 1) := by decide +kernel
theorem dL_law_388 : decode cL_law 388 = .ok (.iaload, 1) := by decide +kernel
theorem dL_law_389 : decode cL_law 389 = .ok (.invokevirtual 54, 3) := by decide +kernel
theorem dL_law_392 : decode cL_law 392 = .ok (.if_icmp .eq 466, 3) := by decide +kernel
theorem dL_law_395 : decode cL_law 395 = .ok (.iconst 0, 1) := by decide +kernel
theorem dL_law_396 : decode cL_law 396 = .ok (.ireturn, 1) := by decide +kernel
theorem dL_law_397 : decode cL_law 397 = .ok (.aload_n 1, 1) := by decide +kernel
theorem dL_law_398 : decode cL_law 398 = .ok (.aload_n 0, 1) := by decide +kernel
theorem dL_law_399 : decode cL_law 399 = .ok (.iload_n 3, 1) := by decide +kernel
theorem dL_law_400 : decode cL_law 400 = .ok (.iconst 1, 1) := by decide +kernel
theorem dL_law_401 : decode cL_law 401 = .ok (.iadd, 1) := by decide +kernel
theorem dL_law_402 : decode cL_law 402 = .ok (.iaload, 1) := by decide +kernel
theorem dL_law_403 : decode cL_law 403 = .ok (.invokevirtual 55, 3) := by decide +kernel
theorem dL_law_406 : decode cL_law 406 = .ok (.aload_n 2, 1) := by decide +kernel
theorem dL_law_407 : decode cL_law 407 = .ok (.aload_n 0, 1) := by decide +kernel
theorem dL_law_408 : decode cL_law 408 = .ok (.iload_n 3, 1) := by decide +kernel
theorem dL_law_409 : decode cL_law 409 = .ok (.iconst 1, 1) := by decide +kernel
theorem dL_law_410 : decode cL_law 410 = .ok (.iadd, 1) := by decide +kernel
theorem dL_law_411 : decode cL_law 411 = .ok (.iaload, 1) := by decide +kernel
theorem dL_law_412 : decode cL_law 412 = .ok (.invokevirtual 58, 3) := by decide +kernel
theorem dL_law_415 : decode cL_law 415 = .ok (.if_icmp .eq 443, 3) := by decide +kernel
theorem dL_law_418 : decode cL_law 418 = .ok (.iconst 0, 1) := by decide +kernel
theorem dL_law_419 : decode cL_law 419 = .ok (.ireturn, 1) := by decide +kernel
theorem dL_law_420 : decode cL_law 420 = .ok (.aload_n 1, 1) := by decide +kernel
theorem dL_law_421 : decode cL_law 421 = .ok (.aload_n 0, 1) := by decide +kernel
theorem dL_law_422 : decode cL_law 422 = .ok (.iload_n 3, 1) := by decide +kernel
theorem dL_law_423 : decode cL_law 423 = .ok (.iconst 1, 1) := by decide +kernel
theorem dL_law_424 : decode cL_law 424 = .ok (.iadd, 1) := by decide +kernel
theorem dL_law_425 : decode cL_law 425 = .ok (.iaload, 1) := by decide +kernel
theorem dL_law_426 : decode cL_law 426 = .ok (.invokevirtual 59, 3) := by decide +kernel
theorem dL_law_429 : decode cL_law 429 = .ok (.aload_n 2, 1) := by decide +kernel
theorem dL_law_430 : decode cL_law 430 = .ok (.aload_n 0, 1) := by decide +kernel
theorem dL_law_431 : decode cL_law 431 = .ok (.iload_n 3, 1) := by decide +kernel
theorem dL_law_432 : decode cL_law 432 = .ok (.iconst 1, 1) := by decide +kernel
theorem dL_law_433 : decode cL_law 433 = .ok (.iadd, 1) := by decide +kernel
theorem dL_law_434 : decode cL_law 434 = .ok (.iaload, 1) := by decide +kernel
theorem dL_law_435 : decode cL_law 435 = .ok (.invokevirtual 62, 3) := by decide +kernel
theorem dL_law_438 : decode cL_law 438 = .ok (.if_icmp .eq 420, 3) := by decide +kernel
theorem dL_law_441 : decode cL_law 441 = .ok (.iconst 0, 1) := by decide +kernel
theorem dL_law_442 : decode cL_law 442 = .ok (.ireturn, 1) := by decide +kernel
theorem dL_law_443 : decode cL_law 443 = .ok (.aload_n 1, 1) := by decide +kernel
theorem dL_law_444 : decode cL_law 444 = .ok (.aload_n 0, 1) := by decide +kernel
theorem dL_law_445 : decode cL_law 445 = .ok (.iload_n 3, 1) := by decide +kernel
theorem dL_law_446 : decode cL_law 446 = .ok (.iconst 1, 1) := by decide +kernel
theorem dL_law_447 : decode cL_law 447 = .ok (.iadd, 1) := by decide +kernel
theorem dL_law_448 : decode cL_law 448 = .ok (.iaload, 1) := by decide +kernel
theorem dL_law_449 : decode cL_law 449 = .ok (.invokevirtual 63, 3) := by decide +kernel
theorem dL_law_452 : decode cL_law 452 = .ok (.aload_n 2, 1) := by decide +kernel
theorem dL_law_453 : decode cL_law 453 = .ok (.aload_n 0, 1) := by decide +kernel
theorem dL_law_454 : decode cL_law 454 = .ok (.iload_n 3, 1) := by decide +kernel
theorem dL_law_455 : decode cL_law 455 = .ok (.iconst 1, 1) := by decide +kernel
theorem dL_law_456 : decode cL_law 456 = .ok (.iadd, 1) := by decide +kernel
theorem dL_law_457 : decode cL_law 457 = .ok (.iaload, 1) := by decide +kernel
theorem dL_law_458 : decode cL_law 458 = .ok (.invokevirtual 66, 3) := by decide +kernel
theorem dL_law_461 : decode cL_law 461 = .ok (.if_icmp .eq 397, 3) := by decide +kernel
theorem dL_law_464 : decode cL_law 464 = .ok (.iconst 0, 1) := by decide +kernel
theorem dL_law_465 : decode cL_law 465 = .ok (.ireturn, 1) := by decide +kernel
theorem dL_law_466 : decode cL_law 466 = .ok (.aload_n 1, 1) := by decide +kernel
theorem dL_law_467 : decode cL_law 467 = .ok (.aload_n 0, 1) := by decide +kernel
theorem dL_law_468 : decode cL_law 468 = .ok (.iload_n 3, 1) := by decide +kernel
theorem dL_law_469 : decode cL_law 469 = .ok (.iconst 1, 1) := by decide +kernel
theorem dL_law_470 : decode cL_law 470 = .ok (.iadd, 1) := by decide +kernel
theorem dL_law_471 : decode cL_law 471 = .ok (.iaload, 1) := by decide +kernel
theorem dL_law_472 : decode cL_law 472 = .ok (.aload_n 0, 1) := by decide +kernel
theorem dL_law_473 : decode cL_law 473 = .ok (.iload_n 3, 1) := by decide +kernel
theorem dL_law_474 : decode cL_law 474 = .ok (.iconst 2, 1) := by decide +kernel
theorem dL_law_475 : decode cL_law 475 = .ok (.iadd, 1) := by decide +kernel
theorem dL_law_476 : decode cL_law 476 = .ok (.iaload, 1) := by decide +kernel
theorem dL_law_477 : decode cL_law 477 = .ok (.aload_n 0, 1) := by decide +kernel
theorem dL_law_478 : decode cL_law 478 = .ok (.iload_n 3, 1) := by decide +kernel
theorem dL_law_479 : decode cL_law 479 = .ok (.iconst 3, 1) := by decide +kernel
theorem dL_law_480 : decode cL_law 480 = .ok (.iadd, 1) := by decide +kernel
theorem dL_law_481 : decode cL_law 481 = .ok (.iaload, 1) := by decide +kernel
theorem dL_law_482 : decode cL_law 482 = .ok (.aload_n 0, 1) := by decide +kernel
theorem dL_law_483 : decode cL_law 483 = .ok (.iload_n 3, 1) := by decide +kernel
theorem dL_law_484 : decode cL_law 484 = .ok (.iconst 4, 1) := by decide +kernel
theorem dL_law_485 : decode cL_law 485 = .ok (.iadd, 1) := by decide +kernel
theorem dL_law_486 : decode cL_law 486 = .ok (.iaload, 1) := by decide +kernel
theorem dL_law_487 : decode cL_law 487 = .ok (.aload_n 0, 1) := by decide +kernel
theorem dL_law_488 : decode cL_law 488 = .ok (.iload_n 3, 1) := by decide +kernel
theorem dL_law_489 : decode cL_law 489 = .ok (.iconst 5, 1) := by decide +kernel
theorem dL_law_490 : decode cL_law 490 = .ok (.iadd, 1) := by decide +kernel
theorem dL_law_491 : decode cL_law 491 = .ok (.iaload, 1) := by decide +kernel
theorem dL_law_492 : decode cL_law 492 = .ok (.invokevirtual 67, 3) := by decide +kernel
theorem dL_law_495 : decode cL_law 495 = .ok (.aload_n 2, 1) := by decide +kernel
theorem dL_law_496 : decode cL_law 496 = .ok (.aload_n 0, 1) := by decide +kernel
theorem dL_law_497 : decode cL_law 497 = .ok (.iload_n 3, 1) := by decide +kernel
theorem dL_law_498 : decode cL_law 498 = .ok (.iconst 1, 1) := by decide +kernel
theorem dL_law_499 : decode cL_law 499 = .ok (.iadd, 1) := by decide +kernel
theorem dL_law_500 : decode cL_law 500 = .ok (.iaload, 1) := by decide +kernel
theorem dL_law_501 : decode cL_law 501 = .ok (.aload_n 0, 1) := by decide +kernel
theorem dL_law_502 : decode cL_law 502 = .ok (.iload_n 3, 1) := by decide +kernel
theorem dL_law_503 : decode cL_law 503 = .ok (.iconst 2, 1) := by decide +kernel
theorem dL_law_504 : decode cL_law 504 = .ok (.iadd, 1) := by decide +kernel
theorem dL_law_505 : decode cL_law 505 = .ok (.iaload, 1) := by decide +kernel
theorem dL_law_506 : decode cL_law 506 = .ok (.aload_n 0, 1) := by decide +kernel
theorem dL_law_507 : decode cL_law 507 = .ok (.iload_n 3, 1) := by decide +kernel
theorem dL_law_508 : decode cL_law 508 = .ok (.iconst 3, 1) := by decide +kernel
theorem dL_law_509 : decode cL_law 509 = .ok (.iadd, 1) := by decide +kernel
theorem dL_law_510 : decode cL_law 510 = .ok (.iaload, 1) := by decide +kernel
theorem dL_law_511 : decode cL_law 511 = .ok (.aload_n 0, 1) := by decide +kernel
theorem dL_law_512 : decode cL_law 512 = .ok (.iload_n 3, 1) := by decide +kernel
theorem dL_law_513 : decode cL_law 513 = .ok (.iconst 4, 1) := by decide +kernel
theorem dL_law_514 : decode cL_law 514 = .ok (.iadd, 1) := by decide +kernel
theorem dL_law_515 : decode cL_law 515 = .ok (.iaload, 1) := by decide +kernel
theorem dL_law_516 : decode cL_law 516 = .ok (.aload_n 0, 1) := by decide +kernel
theorem dL_law_517 : decode cL_law 517 = .ok (.iload_n 3, 1) := by decide +kernel
theorem dL_law_518 : decode cL_law 518 = .ok (.iconst 5, 1) := by decide +kernel
theorem dL_law_519 : decode cL_law 519 = .ok (.iadd, 1) := by decide +kernel
theorem dL_law_520 : decode cL_law 520 = .ok (.iaload, 1) := by decide +kernel
theorem dL_law_521 : decode cL_law 521 = .ok (.invokevirtual 71, 3) := by decide +kernel
theorem dL_law_524 : decode cL_law 524 = .ok (.if_icmp .eq 334, 3) := by decide +kernel
theorem dL_law_527 : decode cL_law 527 = .ok (.iconst 0, 1) := by decide +kernel
theorem dL_law_528 : decode cL_law 528 = .ok (.ireturn, 1) := by decide +kernel
theorem dL_law_529 : decode cL_law 529 = .ok (.aload_n 1, 1) := by decide +kernel
theorem dL_law_530 : decode cL_law 530 = .ok (.invokevirtual 72, 3) := by decide +kernel
theorem dL_law_533 : decode cL_law 533 = .ok (.aload_n 2, 1) := by decide +kernel
theorem dL_law_534 : decode cL_law 534 = .ok (.invokevirtual 75, 3) := by decide +kernel
theorem dL_law_537 : decode cL_law 537 = .ok (.if_icmp .eq 321, 3) := by decide +kernel
theorem dL_law_540 : decode cL_law 540 = .ok (.iconst 0, 1) := by decide +kernel
theorem dL_law_541 : decode cL_law 541 = .ok (.ireturn, 1) := by decide +kernel
theorem dL_law_542 : decode cL_law 542 = .ok (.aload_n 1, 1) := by decide +kernel
theorem dL_law_543 : decode cL_law 543 = .ok (.invokevirtual 76, 3) := by decide +kernel
theorem dL_law_546 : decode cL_law 546 = .ok (.aload_n 2, 1) := by decide +kernel
theorem dL_law_547 : decode cL_law 547 = .ok (.invokevirtual 79, 3) := by decide +kernel
theorem dL_law_550 : decode cL_law 550 = .ok (.if_icmp .eq 308, 3) := by decide +kernel
theorem dL_law_553 : decode cL_law 553 = .ok (.iconst 0, 1) := by decide +kernel
theorem dL_law_554 : decode cL_law 554 = .ok (.ireturn, 1) := by decide +kernel
theorem dL_law_555 : decode cL_law 555 = .ok (.aload_n 1, 1) := by decide +kernel
theorem dL_law_556 : decode cL_law 556 = .ok (.invokevirtual 80, 3) := by decide +kernel
theorem dL_law_559 : decode cL_law 559 = .ok (.aload_n 2, 1) := by decide +kernel
theorem dL_law_560 : decode cL_law 560 = .ok (.invokevirtual 83, 3) := by decide +kernel
theorem dL_law_563 : decode cL_law 563 = .ok (.if_icmp .eq 295, 3) := by decide +kernel
theorem dL_law_566 : decode cL_law 566 = .ok (.iconst 0, 1) := by decide +kernel
theorem dL_law_567 : decode cL_law 567 = .ok (.ireturn, 1) := by decide +kernel
theorem dL_law_568 : decode cL_law 568 = .ok (.aload_n 1, 1) := by decide +kernel
theorem dL_law_569 : decode cL_law 569 = .ok (.aload_n 0, 1) := by decide +kernel
theorem dL_law_570 : decode cL_law 570 = .ok (.iload_n 3, 1) := by decide +kernel
theorem dL_law_571 : decode cL_law 571 = .ok (.iconst 1, 1) := by decide +kernel
theorem dL_law_572 : decode cL_law 572 = .ok (.iadd, 1) := by decide +kernel
theorem dL_law_573 : decode cL_law 573 = .ok (.iaload, 1) := by decide +kernel
theorem dL_law_574 : decode cL_law 574 = .ok (.aload_n 0, 1) := by decide +kernel
theorem dL_law_575 : decode cL_law 575 = .ok (.iload_n 3, 1) := by decide +kernel
theorem dL_law_576 : decode cL_law 576 = .ok (.iconst 2, 1) := by decide +kernel
theorem dL_law_577 : decode cL_law 577 = .ok (.iadd, 1) := by decide +kernel
theorem dL_law_578 : decode cL_law 578 = .ok (.iaload, 1) := by decide +kernel
theorem dL_law_579 : decode cL_law 579 = .ok (.invokevirtual 84, 3) := by decide +kernel
theorem dL_law_582 : decode cL_law 582 = .ok (.aload_n 2, 1) := by decide +kernel
theorem dL_law_583 : decode cL_law 583 = .ok (.aload_n 0, 1) := by decide +kernel
theorem dL_law_584 : decode cL_law 584 = .ok (.iload_n 3, 1) := by decide +kernel
theorem dL_law_585 : decode cL_law 585 = .ok (.iconst 1, 1) := by decide +kernel
theorem dL_law_586 : decode cL_law 586 = .ok (.iadd, 1) := by decide +kernel
theorem dL_law_587 : decode cL_law 587 = .ok (.iaload, 1) := by decide +kernel
theorem dL_law_588 : decode cL_law 588 = .ok (.aload_n 0, 1) := by decide +kernel
theorem dL_law_589 : decode cL_law 589 = .ok (.iload_n 3, 1) := by decide +kernel
theorem dL_law_590 : decode cL_law 590 = .ok (.iconst 2, 1) := by decide +kernel
theorem dL_law_591 : decode cL_law 591 = .ok (.iadd, 1) := by decide +kernel
theorem dL_law_592 : decode cL_law 592 = .ok (.iaload, 1) := by decide +kernel
theorem dL_law_593 : decode cL_law 593 = .ok (.invokevirtual 87, 3) := by decide +kernel
theorem dL_law_596 : decode cL_law 596 = .ok (.if_icmp .eq 262, 3) := by decide +kernel
theorem dL_law_599 : decode cL_law 599 = .ok (.iconst 0, 1) := by decide +kernel
theorem dL_law_600 : decode cL_law 600 = .ok (.ireturn, 1) := by decide +kernel
theorem dL_law_601 : decode cL_law 601 = .ok (.aload_n 1, 1) := by decide +kernel
theorem dL_law_602 : decode cL_law 602 = .ok (.aload_n 0, 1) := by decide +kernel
theorem dL_law_603 : decode cL_law 603 = .ok (.iload_n 3, 1) := by decide +kernel
theorem dL_law_604 : decode cL_law 604 = .ok (.iconst 1, 1) := by decide +kernel
theorem dL_law_605 : decode cL_law 605 = .ok (.iadd, 1) := by decide +kernel
theorem dL_law_606 : decode cL_law 606 = .ok (.iaload, 1) := by decide +kernel
theorem dL_law_607 : decode cL_law 607 = .ok (.aload_n 0, 1) := by decide +kernel
theorem dL_law_608 : decode cL_law 608 = .ok (.iload_n 3, 1) := by decide +kernel
theorem dL_law_609 : decode cL_law 609 = .ok (.iconst 2, 1) := by decide +kernel
theorem dL_law_610 : decode cL_law 610 = .ok (.iadd, 1) := by decide +kernel
theorem dL_law_611 : decode cL_law 611 = .ok (.iaload, 1) := by decide +kernel
theorem dL_law_612 : decode cL_law 612 = .ok (.invokevirtual 88, 3) := by decide +kernel
theorem dL_law_615 : decode cL_law 615 = .ok (.aload_n 2, 1) := by decide +kernel
theorem dL_law_616 : decode cL_law 616 = .ok (.aload_n 0, 1) := by decide +kernel
theorem dL_law_617 : decode cL_law 617 = .ok (.iload_n 3, 1) := by decide +kernel
theorem dL_law_618 : decode cL_law 618 = .ok (.iconst 1, 1) := by decide +kernel
theorem dL_law_619 : decode cL_law 619 = .ok (.iadd, 1) := by decide +kernel
theorem dL_law_620 : decode cL_law 620 = .ok (.iaload, 1) := by decide +kernel
theorem dL_law_621 : decode cL_law 621 = .ok (.aload_n 0, 1) := by decide +kernel
theorem dL_law_622 : decode cL_law 622 = .ok (.iload_n 3, 1) := by decide +kernel
theorem dL_law_623 : decode cL_law 623 = .ok (.iconst 2, 1) := by decide +kernel
theorem dL_law_624 : decode cL_law 624 = .ok (.iadd, 1) := by decide +kernel
theorem dL_law_625 : decode cL_law 625 = .ok (.iaload, 1) := by decide +kernel
theorem dL_law_626 : decode cL_law 626 = .ok (.invokevirtual 91, 3) := by decide +kernel
theorem dL_law_629 : decode cL_law 629 = .ok (.if_icmp .eq 229, 3) := by decide +kernel
theorem dL_law_632 : decode cL_law 632 = .ok (.iconst 0, 1) := by decide +kernel
theorem dL_law_633 : decode cL_law 633 = .ok (.ireturn, 1) := by decide +kernel
theorem dL_law_634 : decode cL_law 634 = .ok (.aload_n 1, 1) := by decide +kernel
theorem dL_law_635 : decode cL_law 635 = .ok (.aload_n 0, 1) := by decide +kernel
theorem dL_law_636 : decode cL_law 636 = .ok (.iload_n 3, 1) := by decide +kernel
theorem dL_law_637 : decode cL_law 637 = .ok (.iconst 1, 1) := by decide +kernel
theorem dL_law_638 : decode cL_law 638 = .ok (.iadd, 1) := by decide +kernel
theorem dL_law_639 : decode cL_law 639 = .ok (.iaload, 1) := by decide +kernel
theorem dL_law_640 : decode cL_law 640 = .ok (.aload_n 0, 1) := by decide +kernel
theorem dL_law_641 : decode cL_law 641 = .ok (.iload_n 3, 1) := by decide +kernel
theorem dL_law_642 : decode cL_law 642 = .ok (.iconst 2, 1) := by decide +kernel
theorem dL_law_643 : decode cL_law 643 = .ok (.iadd, 1) := by decide +kernel
theorem dL_law_644 : decode cL_law 644 = .ok (.iaload, 1) := by decide +kernel
theorem dL_law_645 : decode cL_law 645 = .ok (.aload_n 0, 1) := by decide +kernel
theorem dL_law_646 : decode cL_law 646 = .ok (.iload_n 3, 1) := by decide +kernel
theorem dL_law_647 : decode cL_law 647 = .ok (.iconst 3, 1) := by decide +kernel
theorem dL_law_648 : decode cL_law 648 = .ok (.iadd, 1) := by decide +kernel
theorem dL_law_649 : decode cL_law 649 = .ok (.iaload, 1) := by decide +kernel
theorem dL_law_650 : decode cL_law 650 = .ok (.invokevirtual 92, 3) := by decide +kernel
theorem dL_law_653 : decode cL_law 653 = .ok (.aload_n 2, 1) := by decide +kernel
theorem dL_law_654 : decode cL_law 654 = .ok (.aload_n 0, 1) := by decide +kernel
theorem dL_law_655 : decode cL_law 655 = .ok (.iload_n 3, 1) := by decide +kernel
theorem dL_law_656 : decode cL_law 656 = .ok (.iconst 1, 1) := by decide +kernel
theorem dL_law_657 : decode cL_law 657 = .ok (.iadd, 1) := by decide +kernel
theorem dL_law_658 : decode cL_law 658 = .ok (.iaload, 1) := by decide +kernel
theorem dL_law_659 : decode cL_law 659 = .ok (.aload_n 0, 1) := by decide +kernel
theorem dL_law_660 : decode cL_law 660 = .ok (.iload_n 3, 1) := by decide +kernel
theorem dL_law_661 : decode cL_law 661 = .ok (.iconst 2, 1) := by decide +kernel
theorem dL_law_662 : decode cL_law 662 = .ok (.iadd, 1) := by decide +kernel
theorem dL_law_663 : decode cL_law 663 = .ok (.iaload, 1) := by decide +kernel
theorem dL_law_664 : decode cL_law 664 = .ok (.aload_n 0, 1) := by decide +kernel
theorem dL_law_665 : decode cL_law 665 = .ok (.iload_n 3, 1) := by decide +kernel
theorem dL_law_666 : decode cL_law 666 = .ok (.iconst 3, 1) := by decide +kernel
theorem dL_law_667 : decode cL_law 667 = .ok (.iadd, 1) := by decide +kernel
theorem dL_law_668 : decode cL_law 668 = .ok (.iaload, 1) := by decide +kernel
theorem dL_law_669 : decode cL_law 669 = .ok (.invokevirtual 95, 3) := by decide +kernel
theorem dL_law_672 : decode cL_law 672 = .ok (.if_icmp .eq 186, 3) := by decide +kernel
theorem dL_law_675 : decode cL_law 675 = .ok (.iconst 0, 1) := by decide +kernel
theorem dL_law_676 : decode cL_law 676 = .ok (.ireturn, 1) := by decide +kernel
theorem dL_law_677 : decode cL_law 677 = .ok (.aload_n 1, 1) := by decide +kernel
theorem dL_law_678 : decode cL_law 678 = .ok (.aload_n 0, 1) := by decide +kernel
theorem dL_law_679 : decode cL_law 679 = .ok (.iload_n 3, 1) := by decide +kernel
theorem dL_law_680 : decode cL_law 680 = .ok (.iconst 1, 1) := by decide +kernel
theorem dL_law_681 : decode cL_law 681 = .ok (.iadd, 1) := by decide +kernel
theorem dL_law_682 : decode cL_law 682 = .ok (.iaload, 1) := by decide +kernel
theorem dL_law_683 : decode cL_law 683 = .ok (.invokevirtual 96, 3) := by decide +kernel
theorem dL_law_686 : decode cL_law 686 = .ok (.aload_n 2, 1) := by decide +kernel
theorem dL_law_687 : decode cL_law 687 = .ok (.aload_n 0, 1) := by decide +kernel
theorem dL_law_688 : decode cL_law 688 = .ok (.iload_n 3, 1) := by decide +kernel
theorem dL_law_689 : decode cL_law 689 = .ok (.iconst 1, 1) := by decide +kernel
theorem dL_law_690 : decode cL_law 690 = .ok (.iadd, 1) := by decide +kernel
theorem dL_law_691 : decode cL_law 691 = .ok (.iaload, 1) := by decide +kernel
theorem dL_law_692 : decode cL_law 692 = .ok (.invokevirtual 99, 3) := by decide +kernel
theorem dL_law_695 : decode cL_law 695 = .ok (.if_icmp .eq 163, 3) := by decide +kernel
theorem dL_law_698 : decode cL_law 698 = .ok (.iconst 0, 1) := by decide +kernel
theorem dL_law_699 : decode cL_law 699 = .ok (.ireturn, 1) := by decide +kernel
theorem dL_law_700 : decode cL_law 700 = .ok (.aload_n 1, 1) := by decide +kernel
theorem dL_law_701 : decode cL_law 701 = .ok (.aload_n 0, 1) := by decide +kernel
theorem dL_law_702 : decode cL_law 702 = .ok (.iload_n 3, 1) := by decide +kernel
theorem dL_law_703 : decode cL_law 703 = .ok (.iconst 1, 1) := by decide +kernel
theorem dL_law_704 : decode cL_law 704 = .ok (.iadd, 1) := by decide +kernel
theorem dL_law_705 : decode cL_law 705 = .ok (.iaload, 1) := by decide +kernel
theorem dL_law_706 : decode cL_law 706 = .ok (.invokevirtual 100, 3) := by decide +kernel
theorem dL_law_709 : decode cL_law 709 = .ok (.aload_n 2, 1) := by decide +kernel
theorem dL_law_710 : decode cL_law 710 = .ok (.aload_n 0, 1) := by decide +kernel
theorem dL_law_711 : decode cL_law 711 = .ok (.iload_n 3, 1) := by decide +kernel
theorem dL_law_712 : decode cL_law 712 = .ok (.iconst 1, 1) := by decide +kernel
theorem dL_law_713 : decode cL_law 713 = .ok (.iadd, 1) := by decide +kernel
theorem dL_law_714 : decode cL_law 714 = .ok (.iaload, 1) := by decide +kernel
theorem dL_law_715 : decode cL_law 715 = .ok (.invokevirtual 103, 3) := by decide +kernel
theorem dL_law_718 : decode cL_law 718 = .ok (.if_icmp .eq 140, 3) := by decide +kernel
theorem dL_law_721 : decode cL_law 721 = .ok (.iconst 0, 1) := by decide +kernel
theorem dL_law_722 : decode cL_law 722 = .ok (.ireturn, 1) := by decide +kernel
theorem dL_law_723 : decode cL_law 723 = .ok (.aload_n 1, 1) := by decide +kernel
theorem dL_law_724 : decode cL_law 724 = .ok (.aload_n 0, 1) := by decide +kernel
theorem dL_law_725 : decode cL_law 725 = .ok (.iload_n 3, 1) := by decide +kernel
theorem dL_law_726 : decode cL_law 726 = .ok (.iconst 1, 1) := by decide +kernel
theorem dL_law_727 : decode cL_law 727 = .ok (.iadd, 1) := by decide +kernel
theorem dL_law_728 : decode cL_law 728 = .ok (.iaload, 1) := by decide +kernel
theorem dL_law_729 : decode cL_law 729 = .ok (.aload_n 0, 1) := by decide +kernel
theorem dL_law_730 : decode cL_law 730 = .ok (.iload_n 3, 1) := by decide +kernel
theorem dL_law_731 : decode cL_law 731 = .ok (.iconst 2, 1) := by decide +kernel
theorem dL_law_732 : decode cL_law 732 = .ok (.iadd, 1) := by decide +kernel
theorem dL_law_733 : decode cL_law 733 = .ok (.iaload, 1) := by decide +kernel
theorem dL_law_734 : decode cL_law 734 = .ok (.invokevirtual 104, 3) := by decide +kernel
theorem dL_law_737 : decode cL_law 737 = .ok (.aload_n 2, 1) := by decide +kernel
theorem dL_law_738 : decode cL_law 738 = .ok (.aload_n 0, 1) := by decide +kernel
theorem dL_law_739 : decode cL_law 739 = .ok (.iload_n 3, 1) := by decide +kernel
theorem dL_law_740 : decode cL_law 740 = .ok (.iconst 1, 1) := by decide +kernel
theorem dL_law_741 : decode cL_law 741 = .ok (.iadd, 1) := by decide +kernel
theorem dL_law_742 : decode cL_law 742 = .ok (.iaload, 1) := by decide +kernel
theorem dL_law_743 : decode cL_law 743 = .ok (.aload_n 0, 1) := by decide +kernel
theorem dL_law_744 : decode cL_law 744 = .ok (.iload_n 3, 1) := by decide +kernel
theorem dL_law_745 : decode cL_law 745 = .ok (.iconst 2, 1) := by decide +kernel
theorem dL_law_746 : decode cL_law 746 = .ok (.iadd, 1) := by decide +kernel
theorem dL_law_747 : decode cL_law 747 = .ok (.iaload, 1) := by decide +kernel
theorem dL_law_748 : decode cL_law 748 = .ok (.invokevirtual 107, 3) := by decide +kernel
theorem dL_law_751 : decode cL_law 751 = .ok (.if_icmp .eq 107, 3) := by decide +kernel
theorem dL_law_754 : decode cL_law 754 = .ok (.iconst 0, 1) := by decide +kernel
theorem dL_law_755 : decode cL_law 755 = .ok (.ireturn, 1) := by decide +kernel
theorem dL_law_756 : decode cL_law 756 = .ok (.aload_n 1, 1) := by decide +kernel
theorem dL_law_757 : decode cL_law 757 = .ok (.aload_n 0, 1) := by decide +kernel
theorem dL_law_758 : decode cL_law 758 = .ok (.iload_n 3, 1) := by decide +kernel
theorem dL_law_759 : decode cL_law 759 = .ok (.iconst 1, 1) := by decide +kernel
theorem dL_law_760 : decode cL_law 760 = .ok (.iadd, 1) := by decide +kernel
theorem dL_law_761 : decode cL_law 761 = .ok (.iaload, 1) := by decide +kernel
theorem dL_law_762 : decode cL_law 762 = .ok (.aload_n 0, 1) := by decide +kernel
theorem dL_law_763 : decode cL_law 763 = .ok (.iload_n 3, 1) := by decide +kernel
theorem dL_law_764 : decode cL_law 764 = .ok (.iconst 2, 1) := by decide +kernel
theorem dL_law_765 : decode cL_law 765 = .ok (.iadd, 1) := by decide +kernel
theorem dL_law_766 : decode cL_law 766 = .ok (.iaload, 1) := by decide +kernel
theorem dL_law_767 : decode cL_law 767 = .ok (.invokevirtual 108, 3) := by decide +kernel
theorem dL_law_770 : decode cL_law 770 = .ok (.aload_n 2, 1) := by decide +kernel
theorem dL_law_771 : decode cL_law 771 = .ok (.aload_n 0, 1) := by decide +kernel
theorem dL_law_772 : decode cL_law 772 = .ok (.iload_n 3, 1) := by decide +kernel
theorem dL_law_773 : decode cL_law 773 = .ok (.iconst 1, 1) := by decide +kernel
theorem dL_law_774 : decode cL_law 774 = .ok (.iadd, 1) := by decide +kernel
theorem dL_law_775 : decode cL_law 775 = .ok (.iaload, 1) := by decide +kernel
theorem dL_law_776 : decode cL_law 776 = .ok (.aload_n 0, 1) := by decide +kernel
theorem dL_law_777 : decode cL_law 777 = .ok (.iload_n 3, 1) := by decide +kernel
theorem dL_law_778 : decode cL_law 778 = .ok (.iconst 2, 1) := by decide +kernel
theorem dL_law_779 : decode cL_law 779 = .ok (.iadd, 1) := by decide +kernel
theorem dL_law_780 : decode cL_law 780 = .ok (.iaload, 1) := by decide +kernel
theorem dL_law_781 : decode cL_law 781 = .ok (.invokevirtual 111, 3) := by decide +kernel
theorem dL_law_784 : decode cL_law 784 = .ok (.if_icmp .eq 74, 3) := by decide +kernel
theorem dL_law_787 : decode cL_law 787 = .ok (.iconst 0, 1) := by decide +kernel
theorem dL_law_788 : decode cL_law 788 = .ok (.ireturn, 1) := by decide +kernel
theorem dL_law_789 : decode cL_law 789 = .ok (.aload_n 1, 1) := by decide +kernel
theorem dL_law_790 : decode cL_law 790 = .ok (.aload_n 0, 1) := by decide +kernel
theorem dL_law_791 : decode cL_law 791 = .ok (.iload_n 3, 1) := by decide +kernel
theorem dL_law_792 : decode cL_law 792 = .ok (.iconst 1, 1) := by decide +kernel
theorem dL_law_793 : decode cL_law 793 = .ok (.iadd, 1) := by decide +kernel
theorem dL_law_794 : decode cL_law 794 = .ok (.iaload, 1) := by decide +kernel
theorem dL_law_795 : decode cL_law 795 = .ok (.invokevirtual 112, 3) := by decide +kernel
theorem dL_law_798 : decode cL_law 798 = .ok (.aload_n 2, 1) := by decide +kernel
theorem dL_law_799 : decode cL_law 799 = .ok (.aload_n 0, 1) := by decide +kernel
theorem dL_law_800 : decode cL_law 800 = .ok (.iload_n 3, 1) := by decide +kernel
theorem dL_law_801 : decode cL_law 801 = .ok (.iconst 1, 1) := by decide +kernel
theorem dL_law_802 : decode cL_law 802 = .ok (.iadd, 1) := by decide +kernel
theorem dL_law_803 : decode cL_law 803 = .ok (.iaload, 1) := by decide +kernel
theorem dL_law_804 : decode cL_law 804 = .ok (.invokevirtual 115, 3) := by decide +kernel
theorem dL_law_807 : decode cL_law 807 = .ok (.if_icmp .eq 51, 3) := by decide +kernel
theorem dL_law_810 : decode cL_law 810 = .ok (.iconst 0, 1) := by decide +kernel
theorem dL_law_811 : decode cL_law 811 = .ok (.ireturn, 1) := by decide +kernel
theorem dL_law_812 : decode cL_law 812 = .ok (.aload_n 1, 1) := by decide +kernel
theorem dL_law_813 : decode cL_law 813 = .ok (.aload_n 0, 1) := by decide +kernel
theorem dL_law_814 : decode cL_law 814 = .ok (.iload_n 3, 1) := by decide +kernel
theorem dL_law_815 : decode cL_law 815 = .ok (.iconst 1, 1) := by decide +kernel
theorem dL_law_816 : decode cL_law 816 = .ok (.iadd, 1) := by decide +kernel
theorem dL_law_817 : decode cL_law 817 = .ok (.iaload, 1) := by decide +kernel
theorem dL_law_818 : decode cL_law 818 = .ok (.invokevirtual 116, 3) := by decide +kernel
theorem dL_law_821 : decode cL_law 821 = .ok (.aload_n 2, 1) := by decide +kernel
theorem dL_law_822 : decode cL_law 822 = .ok (.aload_n 0, 1) := by decide +kernel
theorem dL_law_823 : decode cL_law 823 = .ok (.iload_n 3, 1) := by decide +kernel
theorem dL_law_824 : decode cL_law 824 = .ok (.iconst 1, 1) := by decide +kernel
theorem dL_law_825 : decode cL_law 825 = .ok (.iadd, 1) := by decide +kernel
theorem dL_law_826 : decode cL_law 826 = .ok (.iaload, 1) := by decide +kernel
theorem dL_law_827 : decode cL_law 827 = .ok (.invokevirtual 119, 3) := by decide +kernel
theorem dL_law_830 : decode cL_law 830 = .ok (.if_icmp .eq 28, 3) := by decide +kernel
theorem dL_law_833 : decode cL_law 833 = .ok (.iconst 0, 1) := by decide +kernel
theorem dL_law_834 : decode cL_law 834 = .ok (.ireturn, 1) := by decide +kernel
theorem dL_law_835 : decode cL_law 835 = .ok (.aload_n 1, 1) := by decide +kernel
theorem dL_law_836 : decode cL_law 836 = .ok (.aload_n 0, 1) := by decide +kernel
theorem dL_law_837 : decode cL_law 837 = .ok (.iload_n 3, 1) := by decide +kernel
theorem dL_law_838 : decode cL_law 838 = .ok (.iconst 1, 1) := by decide +kernel
theorem dL_law_839 : decode cL_law 839 = .ok (.iadd, 1) := by decide +kernel
theorem dL_law_840 : decode cL_law 840 = .ok (.iaload, 1) := by decide +kernel
theorem dL_law_841 : decode cL_law 841 = .ok (.invokevirtual 120, 3) := by decide +kernel
theorem dL_law_844 : decode cL_law 844 = .ok (.aload_n 2, 1) := by decide +kernel
theorem dL_law_845 : decode cL_law 845 = .ok (.aload_n 0, 1) := by decide +kernel
theorem dL_law_846 : decode cL_law 846 = .ok (.iload_n 3, 1) := by decide +kernel
theorem dL_law_847 : decode cL_law 847 = .ok (.iconst 1, 1) := by decide +kernel
theorem dL_law_848 : decode cL_law 848 = .ok (.iadd, 1) := by decide +kernel
theorem dL_law_849 : decode cL_law 849 = .ok (.iaload, 1) := by decide +kernel
theorem dL_law_850 : decode cL_law 850 = .ok (.invokevirtual 123, 3) := by decide +kernel
theorem dL_law_853 : decode cL_law 853 = .ok (.if_icmp .eq 5, 3) := by decide +kernel
theorem dL_law_856 : decode cL_law 856 = .ok (.iconst 0, 1) := by decide +kernel
theorem dL_law_857 : decode cL_law 857 = .ok (.ireturn, 1) := by decide +kernel
theorem dL_law_858 : decode cL_law 858 = .ok (.iinc 3 6, 3) := by decide +kernel
theorem dL_law_861 : decode cL_law 861 = .ok (.goto (-843), 3) := by decide +kernel
theorem dL_law_864 : decode cL_law 864 = .ok (.iconst 1, 1) := by decide +kernel
theorem dL_law_865 : decode cL_law 865 = .ok (.ireturn, 1) := by decide +kernel
