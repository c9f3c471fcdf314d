theorem dX7_tell_61 : decode cX7_tell 61 = .ok (.ifCond .ne 8, 3) := by decide +kernel
theorem dX7_tell_64 : decode cX7_tell 64 = .ok (.bipush (-5), 2) := by decide +kernel
theorem dX7_tell_66 : decode cX7_tell 66 = .ok (.goto 7, 3) := by decide +kernel
theorem dX7_tell_69 : decode cX7_tell 69 = .ok (.aload_n 0, 1) := by decide +kernel
theorem dX7_tell_70 : decode cX7_tell 70 = .ok (.getfield 18, 3) := by decide +kernel
theorem dX7_tell_73 : decode cX7_tell 73 = .ok (.ireturn, 1) := by decide +kernel
theorem dX7_tell_74 : decode cX7_tell 74 = .ok (.aload_n 0, 1) := by decide +kernel
theorem dX7_tell_75 : decode cX7_tell 75 = .ok (.getfield 24, 3) := by decide +kernel
theorem dX7_tell_78 : decode cX7_tell 78 = .ok (.ireturn, 1) := by decide +kernel
theorem dX7_tell_79 : decode cX7_tell 79 = .ok (.aload_n 0, 1) := by decide +kernel
theorem dX7_tell_80 : decode cX7_tell 80 = .ok (.invokevirtual 88, 3) := by decide +kernel
theorem dX7_tell_83 : decode cX7_tell 83 = .ok (.ireturn, 1) := by decide +kernel
theorem dX7_tell_84 : decode cX7_tell 84 = .ok (.aload_n 0, 1) := by decide +kernel
theorem dX7_tell_85 : decode cX7_tell 85 = .ok (.getfield 27, 3) := by decide +kernel
theorem dX7_tell_88 : decode cX7_tell 88 = .ok (.l2i, 1) := by decide +kernel
theorem dX7_tell_89 : decode cX7_tell 89 = .ok (.ireturn, 1) := by decide +kernel
theorem dX7_tell_90 : decode cX7_tell 90 = .ok (.aload_n 0, 1) := by decide +kernel
theorem dX7_tell_91 : decode cX7_tell 91 = .ok (.getfield 15, 3) := by decide +kernel
theorem dX7_tell_94 : decode cX7_tell 94 = .ok (.ireturn, 1) := by decide +kernel
theorem dX7_tell_95 : decode cX7_tell 95 = .ok (.aload_n 0, 1) := by decide +kernel
theorem dX7_tell_96 : decode cX7_tell 96 = .ok (.getfield 9, 3) := by decide +kernel
theorem dX7_tell_99 : decode cX7_tell 99 = .ok (.ifCond .ne 8, 3) := by decide +kernel
theorem dX7_tell_102 : decode cX7_tell 102 = .ok (.bipush (-5), 2) := by decide +kernel
theorem dX7_tell_104 : decode cX7_tell 104 = .ok (.goto 7, 3) := by decide +kernel
theorem dX7_tell_107 : decode cX7_tell 107 = .ok (.aload_n 0, 1) := by decide +kernel
theorem dX7_tell_108 : decode cX7_tell 108 = .ok (.getfield 21, 3) := by decide +kernel
theorem dX7_tell_111 : decode cX7_tell 111 = .ok (.ireturn, 1) := by decide +kernel
theorem dX7_tell_112 : decode cX7_tell 112 = .ok (.aload_n 0, 1) := by decide +kernel
theorem dX7_tell_113 : decode cX7_tell 113 = .ok (.getfield 34, 3) := by decide +kernel
theorem dX7_tell_116 : decode cX7_tell 116 = .ok (.getfield 40, 3) := by decide +kernel
theorem dX7_tell_119 : decode cX7_tell 119 = .ok (.ireturn, 1) := by decide +kernel
theorem dX7_tell_120 : decode cX7_tell 120 = .ok (.aload_n 0, 1) := by decide +kernel
theorem dX7_tell_121 : decode cX7_tell 121 = .ok (.getfield 31, 3) := by decide +kernel
theorem dX7_tell_124 : decode cX7_tell 124 = .ok (.ireturn, 1) := by decide +kernel
theorem dX7_tell_125 : decode cX7_tell 125 = .ok (.bipush (-2), 2) := by decide +kernel
theorem dX7_tell_127 : decode cX7_tell 127 = .ok (.ireturn, 1) := by decide +kernel
theorem dX8_init_0 : decode cX8_init 0 = .ok (.aload_n 0, 1) := by decide +kernel
theorem dX8_init_1 : decode cX8_init 1 = .ok (.invokespecial 1, 3) := by decide +kernel
theorem dX8_init_4 : decode cX8_init 4 = .ok (.aload_n 0, 1) := by decide +kernel
theorem dX8_init_5 : decode cX8_init 5 = .ok (.new 7, 3) := by decide +kernel
theorem dX8_init_8 : decode cX8_init 8 = .ok (.dup, 1) := by decide +kernel
theorem dX8_init_9 : decode cX8_init 9 = .ok (.invokespecial 9, 3) := by decide +kernel
theorem dX8_init_12 : decode cX8_init 12 = .ok (.putfield 10, 3) := by decide +kernel
theorem dX8_init_15 : decode cX8_init 15 = .ok (.aload_n 0, 1) := by decide +kernel
theorem dX8_init_16 : decode cX8_init 16 = .ok (.new 7, 3) := by decide +kernel
theorem dX8_init_19 : decode cX8_init 19 = .ok (.dup, 1) := by decide +kernel
theorem dX8_init_20 : decode cX8_init 20 = .ok (.invokespecial 9, 3) := by decide +kernel
theorem dX8_init_23 : decode cX8_init 23 = .ok (.putfield 16, 3) := by decide +kernel
theorem dX8_init_26 : decode cX8_init 26 = .ok (.aload_n 0, 1) := by decide +kernel
theorem dX8_init_27 : decode cX8_init 27 = .ok (.new 7, 3) := by decide +kernel
theorem dX8_init_30 : decode cX8_init 30 = .ok (.dup, 1) := by decide +kernel
theorem dX8_init_31 : decode cX8_init 31 = .ok (.invokespecial 9, 3) := by decide +kernel
theorem dX8_init_34 : decode cX8_init 34 = .ok (.putfield 19, 3) := by decide +kernel
theorem dX8_init_37 : decode cX8_init 37 = .ok (.aload_n 0, 1) := by decide +kernel
theorem dX8_init_38 : decode cX8_init 38 = .ok (.new 22, 3) := by decide +kernel
theorem dX8_init_41 : decode cX8_init 41 = .ok (.dup, 1) := by decide +kernel
theorem dX8_init_42 : decode cX8_init 42 = .ok (.invokespecial 24, 3) := by decide +kernel
theorem dX8_init_45 : decode cX8_init 45 = .ok (.putfield 25, 3) := by decide +kernel
theorem dX8_init_48 : decode cX8_init 48 = .ok (.aload_n 0, 1) := by decide +kernel
theorem dX8_init_49 : decode cX8_init 49 = .ok (.new 29, 3) := by decide +kernel
theorem dX8_init_52 : decode cX8_init 52 = .ok (.dup, 1) := by decide +kernel
theorem dX8_init_53 : decode cX8_init 53 = .ok (.invokespecial 31, 3) := by decide +kernel
theorem dX8_init_56 : decode cX8_init 56 = .ok (.putfield 32, 3) := by decide +kernel
theorem dX8_init_59 : decode cX8_init 59 = .ok (.aload_n 0, 1) := by decide +kernel
theorem dX8_init_60 : decode cX8_init 60 = .ok (.new 36, 3) := by decide +kernel
theorem dX8_init_63 : decode cX8_init 63 = .ok (.dup, 1) := by decide +kernel
theorem dX8_init_64 : decode cX8_init 64 = .ok (.invokespecial 38, 3) := by decide +kernel
theorem dX8_init_67 : decode cX8_init 67 = .ok (.putfield 39, 3) := by decide +kernel
theorem dX8_init_70 : decode cX8_init 70 = .ok (.aload_n 0, 1) := by decide +kernel
theorem dX8_init_71 : decode cX8_init 71 = .ok (.iconst 0, 1) := by decide +kernel
theorem dX8_init_72 : decode cX8_init 72 = .ok (.putfield 43, 3) := by decide +kernel
theorem dX8_init_75 : decode cX8_init 75 = .ok (.return_, 1) := by decide +kernel
theorem dX8_addHouse_0 : decode cX8_addHouse 0 = .ok (.iload_n 1, 1) := by decide +kernel
theorem dX8_addHouse_1 : decode cX8_addHouse 1 = .ok (.iconst 1, 1) := by decide +kernel
theorem dX8_addHouse_2 : decode cX8_addHouse 2 = .ok (.bipush 20, 2) := by decide +kernel
theorem dX8_addHouse_4 : decode cX8_addHouse 4 = .ok (.invokestatic 47, 3) := by decide +kernel
theorem dX8_addHouse_7 : decode cX8_addHouse 7 = .ok (.ifCond .eq 24, 3) := by decide +kernel
theorem dX8_addHouse_10 : decode cX8_addHouse 10 = .ok (.iload_n 2, 1) := by decide +kernel
theorem dX8_addHouse_11 : decode cX8_addHouse 11 = .ok (.iconst 1, 1) := by decide +kernel
theorem dX8_addHouse_12 : decode cX8_addHouse 12 = .ok (.bipush 50, 2) := by decide +kernel
theorem dX8_addHouse_14 : decode cX8_addHouse 14 = .ok (.invokestatic 47, 3) := by decide +kernel
theorem dX8_addHouse_17 : decode cX8_addHouse 17 = .ok (.ifCond .eq 14, 3) := by decide +kernel
theorem dX8_addHouse_20 : decode cX8_addHouse 20 = .ok (.iload_n 3, 1) := by decide +kernel
theorem dX8_addHouse_21 : decode cX8_addHouse 21 = .ok (.iconst 0, 1) := by decide +kernel
theorem dX8_addHouse_22 : decode cX8_addHouse 22 = .ok (.sipush 9999, 3) := by decide +kernel
theorem dX8_addHouse_25 : decode cX8_addHouse 25 = .ok (.invokestatic 47, 3) := by decide +kernel
theorem dX8_addHouse_28 : decode cX8_addHouse 28 = .ok (.ifCond .ne 6, 3) := by decide +kernel
theorem dX8_addHouse_31 : decode cX8_addHouse 31 = .ok (.bipush (-2), 2) := by decide +kernel
theorem dX8_addHouse_33 : decode cX8_addHouse 33 = .ok (.ireturn, 1) := by decide +kernel
theorem dX8_addHouse_34 : decode cX8_addHouse 34 = .ok (.aload_n 0, 1) := by decide +kernel
theorem dX8_addHouse_35 : decode cX8_addHouse 35 = .ok (.getfield 10, 3) := by decide +kernel
theorem dX8_addHouse_38 : decode cX8_addHouse 38 = .ok (.getfield 51, 3) := by decide +kernel
theorem dX8_addHouse_41 : decode cX8_addHouse 41 = .ok (.bipush 8, 2) := by decide +kernel
theorem dX8_addHouse_43 : decode cX8_addHouse 43 = .ok (.if_icmp .lt 6, 3) := by decide +kernel
theorem dX8_addHouse_46 : decode cX8_addHouse 46 = .ok (.bipush (-3), 2) := by decide +kernel
theorem dX8_addHouse_48 : decode cX8_addHouse 48 = .ok (.ireturn, 1) := by decide +kernel
theorem dX8_addHouse_49 : decode cX8_addHouse 49 = .ok (.aload_n 0, 1) := by decide +kernel
theorem dX8_addHouse_50 : decode cX8_addHouse 50 = .ok (.getfield 25, 3) := by decide +kernel
theorem dX8_addHouse_53 : decode cX8_addHouse 53 = .ok (.aload_n 0, 1) := by decide +kernel
theorem dX8_addHouse_54 : decode cX8_addHouse 54 = .ok (.getfield 10, 3) := by decide +kernel
theorem dX8_addHouse_57 : decode cX8_addHouse 57 = .ok (.invokevirtual 55, 3) := by decide +kernel
theorem dX8_addHouse_60 : decode cX8_addHouse 60 = .ok (.aload_n 0, 1) := by decide +kernel
theorem dX8_addHouse_61 : decode cX8_addHouse 61 = .ok (.getfield 10, 3) := by decide +kernel
theorem dX8_addHouse_64 : decode cX8_addHouse 64 = .ok (.iload_n 1, 1) := by decide +kernel
theorem dX8_addHouse_65 : decode cX8_addHouse 65 = .ok (.iload_n 2, 1) := by decide +kernel
theorem dX8_addHouse_66 : decode cX8_addHouse 66 = .ok (.iload_n 3, 1) := by decide +kernel
theorem dX8_addHouse_67 : decode cX8_addHouse 67 = .ok (.invokevirtual 59, 3) := by decide +kernel
theorem dX8_addHouse_70 : decode cX8_addHouse 70 = .ok (.ireturn, 1) := by decide +kernel
theorem dX8_set_0 : decode cX8_set 0 = .ok (.iload_n 1, 1) := by decide +kernel
theorem dX8_set_1 : decode cX8_set 1 = .ok (.iconst 0, 1) := by decide +kernel
theorem dX8_set_2 : decode cX8_set 2 = .ok (.iconst 3, 1) := by decide +kernel
theorem dX8_set_3 : decode cX8_set 3 = .ok (.invokestatic 47, 3) := by decide +kernel
theorem dX8_set_6 : decode cX8_set 6 = .ok (.ifCond .eq 20, 3) := by decide +kernel
theorem dX8_set_9 : decode cX8_set 9 = .ok (.iload_n 2, 1) := by decide +kernel
theorem dX8_set_10 : decode cX8_set 10 = .ok (.getstatic 63, 3) := by decide +kernel
theorem dX8_set_13 : decode cX8_set 13 = .ok (.iload_n 1, 1) := by decide +kernel
theorem dX8_set_14 : decode cX8_set 14 = .ok (.iaload, 1) := by decide +kernel
theorem dX8_set_15 : decode cX8_set 15 = .ok (.getstatic 67, 3) := by decide +kernel
theorem dX8_set_18 : decode cX8_set 18 = .ok (.iload_n 1, 1) := by decide +kernel
theorem dX8_set_19 : decode cX8_set 19 = .ok (.iaload, 1) := by decide +kernel
theorem dX8_set_20 : decode cX8_set 20 = .ok (.invokestatic 47, 3) := by decide +kernel
theorem dX8_set_23 : decode cX8_set 23 = .ok (.ifCond .ne 6, 3) := by decide +kernel
theorem dX8_set_26 : decode cX8_set 26 = .ok (.bipush (-2), 2) := by decide +kernel
theorem dX8_set_28 : decode cX8_set 28 = .ok (.ireturn, 1) := by decide +kernel
theorem dX8_set_29 : decode cX8_set 29 = .ok (.iload_n 1, 1) := by decide +kernel
theorem dX8_set_30 : decode cX8_set 30 = .ok (.ifCond .ne 14, 3) := by decide +kernel
theorem dX8_set_33 : decode cX8_set 33 = .ok (.aload_n 0, 1) := by decide +kernel
theorem dX8_set_34 : decode cX8_set 34 = .ok (.getfield 10, 3) := by decide +kernel
theorem dX8_set_37 : decode cX8_set 37 = .ok (.getfield 70, 3) := by decide +kernel
theorem dX8_set_40 : decode cX8_set 40 = .ok (.iload_n 2, 1) := by decide +kernel
theorem dX8_set_41 : decode cX8_set 41 = .ok (.if_icmp .gt 19, 3) := by decide +kernel
theorem dX8_set_44 : decode cX8_set 44 = .ok (.iload_n 1, 1) := by decide +kernel
theorem dX8_set_45 : decode cX8_set 45 = .ok (.iconst 3, 1) := by decide +kernel
theorem dX8_set_46 : decode cX8_set 46 = .ok (.if_icmp .ne 17, 3) := by decide +kernel
theorem dX8_set_49 : decode cX8_set 49 = .ok (.aload_n 0, 1) := by decide +kernel
theorem dX8_set_50 : decode cX8_set 50 = .ok (.getfield 10, 3) := by decide +kernel
theorem dX8_set_53 : decode cX8_set 53 = .ok (.iload_n 2, 1) := by decide +kernel
theorem dX8_set_54 : decode cX8_set 54 = .ok (.invokevirtual 73, 3) := by decide +kernel
theorem dX8_set_57 : decode cX8_set 57 = .ok (.ifCond .eq 6, 3) := by decide +kernel
theorem dX8_set_60 : decode cX8_set 60 = .ok (.bipush (-4), 2) := by decide +kernel
theorem dX8_set_62 : decode cX8_set 62 = .ok (.ireturn, 1) := by decide +kernel
theorem dX8_set_63 : decode cX8_set 63 = .ok (.aload_n 0, 1) := by decide +kernel
theorem dX8_set_64 : decode cX8_set 64 = .ok (.getfield 10, 3) := by decide +kernel
theorem dX8_set_67 : decode cX8_set 67 = .ok (.getfield 77, 3) := by decide +kernel
theorem dX8_set_70 : decode cX8_set 70 = .ok (.iload_n 1, 1) := by decide +kernel
theorem dX8_set_71 : decode cX8_set 71 = .ok (.iaload, 1) := by decide +kernel
theorem dX8_set_72 : decode cX8_set 72 = .ok (.istore_n 3, 1) := by decide +kernel
theorem dX8_set_73 : decode cX8_set 73 = .ok (.iload_n 3, 1) := by decide +kernel
theorem dX8_set_74 : decode cX8_set 74 = .ok (.iload_n 2, 1) := by decide +kernel
theorem dX8_set_75 : decode cX8_set 75 = .ok (.if_icmp .ne 6, 3) := by decide +kernel
theorem dX8_set_78 : decode cX8_set 78 = .ok (.bipush (-5), 2) := by decide +kernel
theorem dX8_set_80 : decode cX8_set 80 = .ok (.ireturn, 1) := by decide +kernel
theorem dX8_set_81 : decode cX8_set 81 = .ok (.aload_n 0, 1) := by decide +kernel
theorem dX8_set_82 : decode cX8_set 82 = .ok (.getfield 25, 3) := by decide +kernel
theorem dX8_set_85 : decode cX8_set 85 = .ok (.aload_n 0, 1) := by decide +kernel
theorem dX8_set_86 : decode cX8_set 86 = .ok (.getfield 10, 3) := by decide +kernel
theorem dX8_set_89 : decode cX8_set 89 = .ok (.invokevirtual 55, 3) := by decide +kernel
theorem dX8_set_92 : decode cX8_set 92 = .ok (.aload_n 0, 1) := by decide +kernel
theorem dX8_set_93 : decode cX8_set 93 = .ok (.getfield 10, 3) := by decide +kernel
theorem dX8_set_96 : decode cX8_set 96 = .ok (.getfield 77, 3) := by decide +kernel
theorem dX8_set_99 : decode cX8_set 99 = .ok (.iload_n 1, 1) := by decide +kernel
theorem dX8_set_100 : decode cX8_set 100 = .ok (.iload_n 2, 1) := by decide +kernel
theorem dX8_set_101 : decode cX8_set 101 = .ok (.iastore, 1) := by decide +kernel
theorem dX8_set_102 : decode cX8_set 102 = .ok (.iload_n 3, 1) := by decide +kernel
theorem dX8_set_103 : decode cX8_set 103 = .ok (.ireturn, 1) := by decide +kernel
theorem dX8_power_0 : decode cX8_power 0 = .ok (.aload_n 0, 1) := by decide +kernel
theorem dX8_power_1 : decode cX8_power 1 = .ok (.getfield 10, 3) := by decide +kernel
theorem dX8_power_4 : decode cX8_power 4 = .ok (.getfield 80, 3) := by decide +kernel
theorem dX8_power_7 : decode cX8_power 7 = .ok (.iload_n 1, 1) := by decide +kernel
theorem dX8_power_8 : decode cX8_power 8 = .ok (.if_icmp .ne 6, 3) := by decide +kernel
theorem dX8_power_11 : decode cX8_power 11 = .ok (.bipush (-5), 2) := by decide +kernel
theorem dX8_power_13 : decode cX8_power 13 = .ok (.ireturn, 1) := by decide +kernel
theorem dX8_power_14 : decode cX8_power 14 = .ok (.aload_n 0, 1) := by decide +kernel
theorem dX8_power_15 : decode cX8_power 15 = .ok (.getfield 25, 3) := by decide +kernel
theorem dX8_power_18 : decode cX8_power 18 = .ok (.aload_n 0, 1) := by decide +kernel
theorem dX8_power_19 : decode cX8_power 19 = .ok (.getfield 10, 3) := by decide +kernel
theorem dX8_power_22 : decode cX8_power 22 = .ok (.invokevirtual 55, 3) := by decide +kernel
theorem dX8_power_25 : decode cX8_power 25 = .ok (.aload_n 0, 1) := by decide +kernel
theorem dX8_power_26 : decode cX8_power 26 = .ok (.getfield 10, 3) := by decide +kernel
theorem dX8_power_29 : decode cX8_power 29 = .ok (.iload_n 1, 1) := by decide +kernel
theorem dX8_power_30 : decode cX8_power 30 = .ok (.invokevirtual 83, 3) := by decide +kernel
theorem dX8_power_33 : decode cX8_power 33 = .ok (.aload_n 0, 1) := by decide +kernel
theorem dX8_power_34 : decode cX8_power 34 = .ok (.getfield 10, 3) := by decide +kernel
theorem dX8_power_37 : decode cX8_power 37 = .ok (.iconst 1, 1) := by decide +kernel
theorem dX8_power_38 : decode cX8_power 38 = .ok (.invokevirtual 87, 3) := by decide +kernel
theorem dX8_power_41 : decode cX8_power 41 = .ok (.ireturn, 1) := by decide +kernel
theorem dX8_pass_0 : decode cX8_pass 0 = .ok (.iload_n 1, 1) := by decide +kernel
theorem dX8_pass_1 : decode cX8_pass 1 = .ok (.iconst 1, 1) := by decide +kernel
theorem dX8_pass_2 : decode cX8_pass 2 = .ok (.bipush 60, 2) := by decide +kernel
theorem dX8_pass_4 : decode cX8_pass 4 = .ok (.invokestatic 47, 3) := by decide +kernel
theorem dX8_pass_7 : decode cX8_pass 7 = .ok (.ifCond .ne 6, 3) := by decide +kernel
theorem dX8_pass_10 : decode cX8_pass 10 = .ok (.bipush (-2), 2) := by decide +kernel
theorem dX8_pass_12 : decode cX8_pass 12 = .ok (.ireturn, 1) := by decide +kernel
theorem dX8_pass_13 : decode cX8_pass 13 = .ok (.aload_n 0, 1) := by decide +kernel
theorem dX8_pass_14 : decode cX8_pass 14 = .ok (.getfield 25, 3) := by decide +kernel
theorem dX8_pass_17 : decode cX8_pass 17 = .ok (.aload_n 0, 1) := by decide +kernel
theorem dX8_pass_18 : decode cX8_pass 18 = .ok (.getfield 10, 3) := by decide +kernel
theorem dX8_pass_21 : decode cX8_pass 21 = .ok (.invokevirtual 55, 3) := by decide +kernel
theorem dX8_pass_24 : decode cX8_pass 24 = .ok (.iconst 0, 1) := by decide +kernel
theorem dX8_pass_25 : decode cX8_pass 25 = .ok (.istore_n 2, 1) := by decide +kernel
theorem dX8_pass_26 : decode cX8_pass 26 = .ok (.iconst 0, 1) := by decide +kernel
theorem dX8_pass_27 : decode cX8_pass 27 = .ok (.istore_n 3, 1) := by decide +kernel
theorem dX8_pass_28 : decode cX8_pass 28 = .ok (.iload_n 3, 1) := by decide +kernel
theorem dX8_pass_29 : decode cX8_pass 29 = .ok (.iload_n 1, 1) := by decide +kernel
theorem dX8_pass_30 : decode cX8_pass 30 = .ok (.if_icmp .ge 23, 3) := by decide +kernel
theorem dX8_pass_33 : decode cX8_pass 33 = .ok (.iload_n 2, 1) := by decide +kernel
theorem dX8_pass_34 : decode cX8_pass 34 = .ok (.aload_n 0, 1) := by decide +kernel
theorem dX8_pass_35 : decode cX8_pass 35 = .ok (.getfield 10, 3) := by decide +kernel
theorem dX8_pass_38 : decode cX8_pass 38 = .ok (.aload_n 0, 1) := by decide +kernel
theorem dX8_pass_39 : decode cX8_pass 39 = .ok (.getfield 32, 3) := by decide +kernel
theorem dX8_pass_42 : decode cX8_pass 42 = .ok (.invokevirtual 91, 3) := by decide +kernel
theorem dX8_pass_45 : decode cX8_pass 45 = .ok (.iadd, 1) := by decide +kernel
theorem dX8_pass_46 : decode cX8_pass 46 = .ok (.istore_n 2, 1) := by decide +kernel
theorem dX8_pass_47 : decode cX8_pass 47 = .ok (.iinc 3 1, 3) := by decide +kernel
theorem dX8_pass_50 : decode cX8_pass 50 = .ok (.goto (-22), 3) := by decide +kernel
theorem dX8_pass_53 : decode cX8_pass 53 = .ok (.iload_n 2, 1) := by decide +kernel
theorem dX8_pass_54 : decode cX8_pass 54 = .ok (.ireturn, 1) := by decide +kernel
theorem dX8_type_0 : decode cX8_type 0 = .ok (.aload_n 0, 1) := by decide +kernel
theorem dX8_type_1 : decode cX8_type 1 = .ok (.getfield 39, 3) := by decide +kernel
theorem dX8_type_4 : decode cX8_type 4 = .ok (.iload_n 1, 1) := by decide +kernel
theorem dX8_type_5 : decode cX8_type 5 = .ok (.invokevirtual 95, 3) := by decide +kernel
theorem dX8_type_8 : decode cX8_type 8 = .ok (.ifCond .eq 13, 3) := by decide +kernel
theorem dX8_type_11 : decode cX8_type 11 = .ok (.aload_n 0, 1) := by decide +kernel
theorem dX8_type_12 : decode cX8_type 12 = .ok (.getfield 39, 3) := by decide +kernel
theorem dX8_type_15 : decode cX8_type 15 = .ok (.getfield 99, 3) := by decide +kernel
theorem dX8_type_18 : decode cX8_type 18 = .ok (.goto 5, 3) := by decide +kernel
theorem dX8_type_21 : decode cX8_type 21 = .ok (.bipush (-3), 2) := by decide +kernel
theorem dX8_type_23 : decode cX8_type 23 = .ok (.ireturn, 1) := by decide +kernel
theorem dX8_clearText_0 : decode cX8_clearText 0 = .ok (.aload_n 0, 1) := by decide +kernel
theorem dX8_clearText_1 : decode cX8_clearText 1 = .ok (.getfield 39, 3) := by decide +kernel
theorem dX8_clearText_4 : decode cX8_clearText 4 = .ok (.getfield 99, 3) := by decide +kernel
theorem dX8_clearText_7 : decode cX8_clearText 7 = .ok (.istore_n 1, 1) := by decide +kernel
theorem dX8_clearText_8 : decode cX8_clearText 8 = .ok (.aload_n 0, 1) := by decide +kernel
theorem dX8_clearText_9 : decode cX8_clearText 9 = .ok (.getfield 39, 3) := by decide +kernel
theorem dX8_clearText_12 : decode cX8_clearText 12 = .ok (.iconst 0, 1) := by decide +kernel
theorem dX8_clearText_13 : decode cX8_clearText 13 = .ok (.putfield 99, 3) := by decide +kernel
theorem dX8_clearText_16 : decode cX8_clearText 16 = .ok (.iload_n 1, 1) := by decide +kernel
theorem dX8_clearText_17 : decode cX8_clearText 17 = .ok (.ireturn, 1) := by decide +kernel
theorem dX8_readProgram_0 : decode cX8_readProgram 0 = .ok (.aload_n 0, 1) := by decide +kernel
theorem dX8_readProgram_1 : decode cX8_readProgram 1 = .ok (.getfield 10, 3) := by decide +kernel
theorem dX8_readProgram_4 : decode cX8_readProgram 4 = .ok (.iload_n 1, 1) := by decide +kernel
theorem dX8_readProgram_5 : decode cX8_readProgram 5 = .ok (.invokevirtual 102, 3) := by decide +kernel
theorem dX8_readProgram_8 : decode cX8_readProgram 8 = .ok (.ifCond .ne 5, 3) := by decide +kernel
theorem dX8_readProgram_11 : decode cX8_readProgram 11 = .ok (.iconst (-1), 1) := by decide +kernel
theorem dX8_readProgram_12 : decode cX8_readProgram 12 = .ok (.ireturn, 1) := by decide +kernel
theorem dX8_readProgram_13 : decode cX8_readProgram 13 = .ok (.aload_n 0, 1) := by decide +kernel
theorem dX8_readProgram_14 : decode cX8_readProgram 14 = .ok (.getfield 39, 3) := by decide +kernel
theorem dX8_readProgram_17 : decode cX8_readProgram 17 = .ok (.invokevirtual 105, 3) := by decide +kernel
theorem dX8_readProgram_20 : decode cX8_readProgram 20 = .ok (.istore_n 2, 1) := by decide +kernel
theorem dX8_readProgram_21 : decode cX8_readProgram 21 = .ok (.iload_n 2, 1) := by decide +kernel
theorem dX8_readProgram_22 : decode cX8_readProgram 22 = .ok (.bipush (-5), 2) := by decide +kernel
theorem dX8_readProgram_24 : decode cX8_readProgram 24 = .ok (.if_icmp .eq 8, 3) := by decide +kernel
theorem dX8_readProgram_27 : decode cX8_readProgram 27 = .ok (.bipush (-100), 2) := by decide +kernel
theorem dX8_readProgram_29 : decode cX8_readProgram 29 = .ok (.iload_n 2, 1) := by decide +kernel
theorem dX8_readProgram_30 : decode cX8_readProgram 30 = .ok (.isub, 1) := by decide +kernel
theorem dX8_readProgram_31 : decode cX8_readProgram 31 = .ok (.ireturn, 1) := by decide +kernel
theorem dX8_readProgram_32 : decode cX8_readProgram 32 = .ok (.aload_n 0, 1) := by decide +kernel
theorem dX8_readProgram_33 : decode cX8_readProgram 33 = .ok (.getfield 39, 3) := by decide +kernel
theorem dX8_readProgram_36 : decode cX8_readProgram 36 = .ok (.invokevirtual 109, 3) := by decide +kernel
theorem dX8_readProgram_39 : decode cX8_readProgram 39 = .ok (.astore_n 3, 1) := by decide +kernel
theorem dX8_readProgram_40 : decode cX8_readProgram 40 = .ok (.aload_n 3, 1) := by decide +kernel
theorem dX8_readProgram_41 : decode cX8_readProgram 41 = .ok (.invokevirtual 113, 3) := by decide +kernel
theorem dX8_readProgram_44 : decode cX8_readProgram 44 = .ok (.ifCond .ne 6, 3) := by decide +kernel
theorem dX8_readProgram_47 : decode cX8_readProgram 47 = .ok (.bipush (-2), 2) := by decide +kernel
theorem dX8_readProgram_49 : decode cX8_readProgram 49 = .ok (.ireturn, 1) := by decide +kernel
theorem dX8_readProgram_50 : decode cX8_readProgram 50 = .ok (.aload_n 3, 1) := by decide +kernel
theorem dX8_readProgram_51 : decode cX8_readProgram 51 = .ok (.getfield 119, 3) := by decide +kernel
theorem dX8_readProgram_54 : decode cX8_readProgram 54 = .ok (.bipush 12, 2) := by decide +kernel
theorem dX8_readProgram_56 : decode cX8_readProgram 56 = .ok (.if_icmp .le 6, 3) := by decide +kernel
theorem dX8_readProgram_59 : decode cX8_readProgram 59 = .ok (.bipush (-3), 2) := by decide +kernel
theorem dX8_readProgram_61 : decode cX8_readProgram 61 = .ok (.ireturn, 1) := by decide +kernel
theorem dX8_readProgram_62 : decode cX8_readProgram 62 = .ok (.aload_n 0, 1) := by decide +kernel
theorem dX8_readProgram_63 : decode cX8_readProgram 63 = .ok (.getfield 10, 3) := by decide +kernel
theorem dX8_readProgram_66 : decode cX8_readProgram 66 = .ok (.iload_n 1, 1) := by decide +kernel
theorem dX8_readProgram_67 : decode cX8_readProgram 67 = .ok (.invokevirtual 120, 3) := by decide +kernel
theorem dX8_readProgram_70 : decode cX8_readProgram 70 = .ok (.getfield 124, 3) := by decide +kernel
theorem dX8_readProgram_73 : decode cX8_readProgram 73 = .ok (.iconst 1, 1) := by decide +kernel
theorem dX8_readProgram_74 : decode cX8_readProgram 74 = .ok (.if_icmp .ne 6, 3) := by decide +kernel
theorem dX8_readProgram_77 : decode cX8_readProgram 77 = .ok (.bipush (-4), 2) := by decide +kernel
theorem dX8_readProgram_79 : decode cX8_readProgram 79 = .ok (.ireturn, 1) := by decide +kernel
theorem dX8_readProgram_80 : decode cX8_readProgram 80 = .ok (.aload_n 0, 1) := by decide +kernel
theorem dX8_readProgram_81 : decode cX8_readProgram 81 = .ok (.getfield 25, 3) := by decide +kernel
theorem dX8_readProgram_84 : decode cX8_readProgram 84 = .ok (.aload_n 0, 1) := by decide +kernel
theorem dX8_readProgram_85 : decode cX8_readProgram 85 = .ok (.getfield 10, 3) := by decide +kernel
theorem dX8_readProgram_88 : decode cX8_readProgram 88 = .ok (.invokevirtual 55, 3) := by decide +kernel
theorem dX8_readProgram_91 : decode cX8_readProgram 91 = .ok (.aload_n 0, 1) := by decide +kernel
theorem dX8_readProgram_92 : decode cX8_readProgram 92 = .ok (.getfield 10, 3) := by decide +kernel
theorem dX8_readProgram_95 : decode cX8_readProgram 95 = .ok (.iload_n 1, 1) := by decide +kernel
theorem dX8_readProgram_96 : decode cX8_readProgram 96 = .ok (.invokevirtual 120, 3) := by decide +kernel
theorem dX8_readProgram_99 : decode cX8_readProgram 99 = .ok (.aload_n 3, 1) := by decide +kernel
theorem dX8_readProgram_100 : decode cX8_readProgram 100 = .ok (.putfield 129, 3) := by decide +kernel
theorem dX8_readProgram_103 : decode cX8_readProgram 103 = .ok (.aload_n 3, 1) := by decide +kernel
theorem dX8_readProgram_104 : decode cX8_readProgram 104 = .ok (.getfield 119, 3) := by decide +kernel
theorem dX8_readProgram_107 : decode cX8_readProgram 107 = .ok (.ireturn, 1) := by decide +kernel
theorem dX8_start_0 : decode cX8_start 0 = .ok (.aload_n 0, 1) := by decide +kernel
theorem dX8_start_1 : decode cX8_start 1 = .ok (.getfield 10, 3) := by decide +kernel
theorem dX8_start_4 : decode cX8_start 4 = .ok (.iload_n 1, 1) := by decide +kernel
theorem dX8_start_5 : decode cX8_start 5 = .ok (.invokevirtual 102, 3) := by decide +kernel
theorem dX8_start_8 : decode cX8_start 8 = .ok (.ifCond .ne 5, 3) := by decide +kernel
theorem dX8_start_11 : decode cX8_start 11 = .ok (.iconst (-1), 1) := by decide +kernel
theorem dX8_start_12 : decode cX8_start 12 = .ok (.ireturn, 1) := by decide +kernel
theorem dX8_start_13 : decode cX8_start 13 = .ok (.aload_n 0, 1) := by decide +kernel
theorem dX8_start_14 : decode cX8_start 14 = .ok (.getfield 10, 3) := by decide +kernel
theorem dX8_start_17 : decode cX8_start 17 = .ok (.iload_n 1, 1) := by decide +kernel
theorem dX8_start_18 : decode cX8_start 18 = .ok (.invokevirtual 120, 3) := by decide +kernel
theorem dX8_start_21 : decode cX8_start 21 = .ok (.astore_n 2, 1) := by decide +kernel
theorem dX8_start_22 : decode cX8_start 22 = .ok (.aload_n 0, 1) := by decide +kernel
theorem dX8_start_23 : decode cX8_start 23 = .ok (.getfield 10, 3) := by decide +kernel
theorem dX8_start_26 : decode cX8_start 26 = .ok (.getfield 80, 3) := by decide +kernel
theorem dX8_start_29 : decode cX8_start 29 = .ok (.ifCond .eq 10, 3) := by decide +kernel
theorem dX8_start_32 : decode cX8_start 32 = .ok (.aload_n 2, 1) := by decide +kernel
theorem dX8_start_33 : decode cX8_start 33 = .ok (.invokevirtual 133, 3) := by decide +kernel
theorem dX8_start_36 : decode cX8_start 36 = .ok (.ifCond .ne 6, 3) := by decide +kernel
theorem dX8_start_39 : decode cX8_start 39 = .ok (.bipush (-4), 2) := by decide +kernel
theorem dX8_start_41 : decode cX8_start 41 = .ok (.ireturn, 1) := by decide +kernel
theorem dX8_start_42 : decode cX8_start 42 = .ok (.aload_n 0, 1) := by decide +kernel
theorem dX8_start_43 : decode cX8_start 43 = .ok (.getfield 25, 3) := by decide +kernel
theorem dX8_start_46 : decode cX8_start 46 = .ok (.aload_n 0, 1) := by decide +kernel
theorem dX8_start_47 : decode cX8_start 47 = .ok (.getfield 10, 3) := by decide +kernel
theorem dX8_start_50 : decode cX8_start 50 = .ok (.invokevirtual 55, 3) := by decide +kernel
theorem dX8_start_53 : decode cX8_start 53 = .ok (.aload_n 2, 1) := by decide +kernel
theorem dX8_start_54 : decode cX8_start 54 = .ok (.invokevirtual 136, 3) := by decide +kernel
theorem dX8_start_57 : decode cX8_start 57 = .ok (.aload_n 2, 1) := by decide +kernel
theorem dX8_start_58 : decode cX8_start 58 = .ok (.getfield 129, 3) := by decide +kernel
theorem dX8_start_61 : decode cX8_start 61 = .ok (.getfield 119, 3) := by decide +kernel
theorem dX8_start_64 : decode cX8_start 64 = .ok (.ireturn, 1) := by decide +kernel
theorem dX8_stop_0 : decode cX8_stop 0 = .ok (.aload_n 0, 1) := by decide +kernel
theorem dX8_stop_1 : decode cX8_stop 1 = .ok (.getfield 10, 3) := by decide +kernel
theorem dX8_stop_4 : decode cX8_stop 4 = .ok (.iload_n 1, 1) := by decide +kernel
theorem dX8_stop_5 : decode cX8_stop 5 = .ok (.invokevirtual 102, 3) := by decide +kernel
theorem dX8_stop_8 : decode cX8_stop 8 = .ok (.ifCond .ne 5, 3) := by decide +kernel
theorem dX8_stop_11 : decode cX8_stop 11 = .ok (.iconst (-1), 1) := by decide +kernel
theorem dX8_stop_12 : decode cX8_stop 12 = .ok (.ireturn, 1) := by decide +kernel
theorem dX8_stop_13 : decode cX8_stop 13 = .ok (.aload_n 0, 1) := by decide +kernel
theorem dX8_stop_14 : decode cX8_stop 14 = .ok (.getfield 10, 3) := by decide +kernel
theorem dX8_stop_17 : decode cX8_stop 17 = .ok (.iload_n 1, 1) := by decide +kernel
theorem dX8_stop_18 : decode cX8_stop 18 = .ok (.invokevirtual 120, 3) := by decide +kernel
theorem dX8_stop_21 : decode cX8_stop 21 = .ok (.astore_n 2, 1) := by decide +kernel
theorem dX8_stop_22 : decode cX8_stop 22 = .ok (.aload_n 2, 1) := by decide +kernel
theorem dX8_stop_23 : decode cX8_stop 23 = .ok (.getfield 124, 3) := by decide +kernel
theorem dX8_stop_26 : decode cX8_stop 26 = .ok (.ifCond .ne 6, 3) := by decide +kernel
theorem dX8_stop_29 : decode cX8_stop 29 = .ok (.bipush (-5), 2) := by decide +kernel
theorem dX8_stop_31 : decode cX8_stop 31 = .ok (.ireturn, 1) := by decide +kernel
theorem dX8_stop_32 : decode cX8_stop 32 = .ok (.aload_n 0, 1) := by decide +kernel
theorem dX8_stop_33 : decode cX8_stop 33 = .ok (.getfield 25, 3) := by decide +kernel
theorem dX8_stop_36 : decode cX8_stop 36 = .ok (.aload_n 0, 1) := by decide +kernel
theorem dX8_stop_37 : decode cX8_stop 37 = .ok (.getfield 10, 3) := by decide +kernel
theorem dX8_stop_40 : decode cX8_stop 40 = .ok (.invokevirtual 55, 3) := by decide +kernel
theorem dX8_stop_43 : decode cX8_stop 43 = .ok (.aload_n 2, 1) := by decide +kernel
theorem dX8_stop_44 : decode cX8_stop 44 = .ok (.iconst 0, 1) := by decide +kernel
theorem dX8_stop_45 : decode cX8_stop 45 = .ok (.putfield 124, 3) := by decide +kernel
theorem dX8_stop_48 : decode cX8_stop 48 = .ok (.aload_n 2, 1) := by decide +kernel
theorem dX8_stop_49 : decode cX8_stop 49 = .ok (.getfield 139, 3) := by decide +kernel
theorem dX8_stop_52 : decode cX8_stop 52 = .ok (.ireturn, 1) := by decide +kernel
theorem dX8_bail_0 : decode cX8_bail 0 = .ok (.aload_n 0, 1) := by decide +kernel
theorem dX8_bail_1 : decode cX8_bail 1 = .ok (.getfield 10, 3) := by decide +kernel
theorem dX8_bail_4 : decode cX8_bail 4 = .ok (.iload_n 1, 1) := by decide +kernel
theorem dX8_bail_5 : decode cX8_bail 5 = .ok (.invokevirtual 102, 3) := by decide +kernel
theorem dX8_bail_8 : decode cX8_bail 8 = .ok (.ifCond .ne 5, 3) := by decide +kernel
theorem dX8_bail_11 : decode cX8_bail 11 = .ok (.iconst (-1), 1) := by decide +kernel
theorem dX8_bail_12 : decode cX8_bail 12 = .ok (.ireturn, 1) := by decide +kernel
theorem dX8_bail_13 : decode cX8_bail 13 = .ok (.aload_n 0, 1) := by decide +kernel
theorem dX8_bail_14 : decode cX8_bail 14 = .ok (.getfield 10, 3) := by decide +kernel
theorem dX8_bail_17 : decode cX8_bail 17 = .ok (.iload_n 1, 1) := by decide +kernel
theorem dX8_bail_18 : decode cX8_bail 18 = .ok (.invokevirtual 120, 3) := by decide +kernel
theorem dX8_bail_21 : decode cX8_bail 21 = .ok (.astore_n 2, 1) := by decide +kernel
theorem dX8_bail_22 : decode cX8_bail 22 = .ok (.aload_n 2, 1) := by decide +kernel
theorem dX8_bail_23 : decode cX8_bail 23 = .ok (.getfield 124, 3) := by decide +kernel
theorem dX8_bail_26 : decode cX8_bail 26 = .ok (.iconst 1, 1) := by decide +kernel
theorem dX8_bail_27 : decode cX8_bail 27 = .ok (.if_icmp .ne 6, 3) := by decide +kernel
theorem dX8_bail_30 : decode cX8_bail 30 = .ok (.bipush (-4), 2) := by decide +kernel
theorem dX8_bail_32 : decode cX8_bail 32 = .ok (.ireturn, 1) := by decide +kernel
theorem dX8_bail_33 : decode cX8_bail 33 = .ok (.aload_n 2, 1) := by decide +kernel
theorem dX8_bail_34 : decode cX8_bail 34 = .ok (.getfield 142, 3) := by decide +kernel
theorem dX8_bail_37 : decode cX8_bail 37 = .ok (.ifCond .ne 6, 3) := by decide +kernel
theorem dX8_bail_40 : decode cX8_bail 40 = .ok (.bipush (-5), 2) := by decide +kernel
theorem dX8_bail_42 : decode cX8_bail 42 = .ok (.ireturn, 1) := by decide +kernel
theorem dX8_bail_43 : decode cX8_bail 43 = .ok (.aload_n 0, 1) := by decide +kernel
theorem dX8_bail_44 : decode cX8_bail 44 = .ok (.getfield 25, 3) := by decide +kernel
theorem dX8_bail_47 : decode cX8_bail 47 = .ok (.aload_n 0, 1) := by decide +kernel
theorem dX8_bail_48 : decode cX8_bail 48 = .ok (.getfield 10, 3) := by decide +kernel
theorem dX8_bail_51 : decode cX8_bail 51 = .ok (.invokevirtual 55, 3) := by decide +kernel
theorem dX8_bail_54 : decode cX8_bail 54 = .ok (.aload_n 2, 1) := by decide +kernel
theorem dX8_bail_55 : decode cX8_bail 55 = .ok (.getfield 142, 3) := by decide +kernel
theorem dX8_bail_58 : decode cX8_bail 58 = .ok (.istore_n 3, 1) := by decide +kernel
theorem dX8_bail_59 : decode cX8_bail 59 = .ok (.aload_n 2, 1) := by decide +kernel
theorem dX8_bail_60 : decode cX8_bail 60 = .ok (.iconst 0, 1) := by decide +kernel
theorem dX8_bail_61 : decode cX8_bail 61 = .ok (.putfield 142, 3) := by decide +kernel
theorem dX8_bail_64 : decode cX8_bail 64 = .ok (.aload_n 2, 1) := by decide +kernel
theorem dX8_bail_65 : decode cX8_bail 65 = .ok (.lconst 0, 1) := by decide +kernel
theorem dX8_bail_66 : decode cX8_bail 66 = .ok (.putfield 145, 3) := by decide +kernel
theorem dX8_bail_69 : decode cX8_bail 69 = .ok (.iload_n 3, 1) := by decide +kernel
theorem dX8_bail_70 : decode cX8_bail 70 = .ok (.ireturn, 1) := by decide +kernel
theorem dX8_openDoor_0 : decode cX8_openDoor 0 = .ok (.aload_n 0, 1) := by decide +kernel
theorem dX8_openDoor_1 : decode cX8_openDoor 1 = .ok (.getfield 10, 3) := by decide +kernel
theorem dX8_openDoor_4 : decode cX8_openDoor 4 = .ok (.iload_n 1, 1) := by decide +kernel
theorem dX8_openDoor_5 : decode cX8_openDoor 5 = .ok (.invokevirtual 102, 3) := by decide +kernel
theorem dX8_openDoor_8 : decode cX8_openDoor 8 = .ok (.ifCond .ne 5, 3) := by decide +kernel
theorem dX8_openDoor_11 : decode cX8_openDoor 11 = .ok (.iconst (-1), 1) := by decide +kernel
theorem dX8_openDoor_12 : decode cX8_openDoor 12 = .ok (.ireturn, 1) := by decide +kernel
theorem dX8_openDoor_13 : decode cX8_openDoor 13 = .ok (.aload_n 0, 1) := by decide +kernel
theorem dX8_openDoor_14 : decode cX8_openDoor 14 = .ok (.getfield 10, 3) := by decide +kernel
theorem dX8_openDoor_17 : decode cX8_openDoor 17 = .ok (.iload_n 1, 1) := by decide +kernel
theorem dX8_openDoor_18 : decode cX8_openDoor 18 = .ok (.invokevirtual 120, 3) := by decide +kernel
theorem dX8_openDoor_21 : decode cX8_openDoor 21 = .ok (.astore_n 2, 1) := by decide +kernel
theorem dX8_openDoor_22 : decode cX8_openDoor 22 = .ok (.aload_n 2, 1) := by decide +kernel
theorem dX8_openDoor_23 : decode cX8_openDoor 23 = .ok (.getfield 149, 3) := by decide +kernel
theorem dX8_openDoor_26 : decode cX8_openDoor 26 = .ok (.iconst 2, 1) := by decide +kernel
theorem dX8_openDoor_27 : decode cX8_openDoor 27 = .ok (.if_icmp .ne 6, 3) := by decide +kernel
theorem dX8_openDoor_30 : decode cX8_openDoor 30 = .ok (.bipush (-4), 2) := by decide +kernel
theorem dX8_openDoor_32 : decode cX8_openDoor 32 = .ok (.ireturn, 1) := by decide +kernel
theorem dX8_openDoor_33 : decode cX8_openDoor 33 = .ok (.aload_n 2, 1) := by decide +kernel
theorem dX8_openDoor_34 : decode cX8_openDoor 34 = .ok (.getfield 149, 3) := by decide +kernel
theorem dX8_openDoor_37 : decode cX8_openDoor 37 = .ok (.ifCond .ne 6, 3) := by decide +kernel
theorem dX8_openDoor_40 : decode cX8_openDoor 40 = .ok (.bipush (-5), 2) := by decide +kernel
theorem dX8_openDoor_42 : decode cX8_openDoor 42 = .ok (.ireturn, 1) := by decide +kernel
theorem dX8_openDoor_43 : decode cX8_openDoor 43 = .ok (.aload_n 0, 1) := by decide +kernel
theorem dX8_openDoor_44 : decode cX8_openDoor 44 = .ok (.getfield 25, 3) := by decide +kernel
theorem dX8_openDoor_47 : decode cX8_openDoor 47 = .ok (.aload_n 0, 1) := by decide +kernel
theorem dX8_openDoor_48 : decode cX8_openDoor 48 = .ok (.getfield 10, 3) := by decide +kernel
theorem dX8_openDoor_51 : decode cX8_openDoor 51 = .ok (.invokevirtual 55, 3) := by decide +kernel
theorem dX8_openDoor_54 : decode cX8_openDoor 54 = .ok (.aload_n 2, 1) := by decide +kernel
theorem dX8_openDoor_55 : decode cX8_openDoor 55 = .ok (.iconst 0, 1) := by decide +kernel
theorem dX8_openDoor_56 : decode cX8_openDoor 56 = .ok (.putfield 149, 3) := by decide +kernel
theorem dX8_openDoor_59 : decode cX8_openDoor 59 = .ok (.aload_n 2, 1) := by decide +kernel
theorem dX8_openDoor_60 : decode cX8_openDoor 60 = .ok (.invokevirtual 152, 3) := by decide +kernel
theorem dX8_openDoor_63 : decode cX8_openDoor 63 = .ok (.ireturn, 1) := by decide +kernel
theorem dX8_closeDoor_0 : decode cX8_closeDoor 0 = .ok (.aload_n 0, 1) := by decide +kernel
theorem dX8_closeDoor_1 : decode cX8_closeDoor 1 = .ok (.getfield 10, 3) := by decide +kernel
theorem dX8_closeDoor_4 : decode cX8_closeDoor 4 = .ok (.iload_n 1, 1) := by decide +kernel
theorem dX8_closeDoor_5 : decode cX8_closeDoor 5 = .ok (.invokevirtual 102, 3) := by decide +kernel
theorem dX8_closeDoor_8 : decode cX8_closeDoor 8 = .ok (.ifCond .ne 5, 3) := by decide +kernel
theorem dX8_closeDoor_11 : decode cX8_closeDoor 11 = .ok (.iconst (-1), 1) := by decide +kernel
theorem dX8_closeDoor_12 : decode cX8_closeDoor 12 = .ok (.ireturn, 1) := by decide +kernel
theorem dX8_closeDoor_13 : decode cX8_closeDoor 13 = .ok (.aload_n 0, 1) := by decide +kernel
theorem dX8_closeDoor_14 : decode cX8_closeDoor 14 = .ok (.getfield 10, 3) := by decide +kernel
theorem dX8_closeDoor_17 : decode cX8_closeDoor 17 = .ok (.iload_n 1, 1) := by decide +kernel
theorem dX8_closeDoor_18 : decode cX8_closeDoor 18 = .ok (.invokevirtual 120, 3) := by decide +kernel
theorem dX8_closeDoor_21 : decode cX8_closeDoor 21 = .ok (.astore_n 2, 1) := by decide +kernel
theorem dX8_closeDoor_22 : decode cX8_closeDoor 22 = .ok (.aload_n 2, 1) := by decide +kernel
theorem dX8_closeDoor_23 : decode cX8_closeDoor 23 = .ok (.getfield 149, 3) := by decide +kernel
theorem dX8_closeDoor_26 : decode cX8_closeDoor 26 = .ok (.ifCond .eq 6, 3) := by decide +kernel
theorem dX8_closeDoor_29 : decode cX8_closeDoor 29 = .ok (.bipush (-5), 2) := by decide +kernel
theorem dX8_closeDoor_31 : decode cX8_closeDoor 31 = .ok (.ireturn, 1) := by decide +kernel
theorem dX8_closeDoor_32 : decode cX8_closeDoor 32 = .ok (.aload_n 0, 1) := by decide +kernel
theorem dX8_closeDoor_33 : decode cX8_closeDoor 33 = .ok (.getfield 25, 3) := by decide +kernel
theorem dX8_closeDoor_36 : decode cX8_closeDoor 36 = .ok (.aload_n 0, 1) := by decide +kernel
theorem dX8_closeDoor_37 : decode cX8_closeDoor 37 = .ok (.getfield 10, 3) := by decide +kernel
theorem dX8_closeDoor_40 : decode cX8_closeDoor 40 = .ok (.invokevirtual 55, 3) := by decide +kernel
theorem dX8_closeDoor_43 : decode cX8_closeDoor 43 = .ok (.aload_n 2, 1) := by decide +kernel
theorem dX8_closeDoor_44 : decode cX8_closeDoor 44 = .ok (.iconst 1, 1) := by decide +kernel
theorem dX8_closeDoor_45 : decode cX8_closeDoor 45 = .ok (.putfield 149, 3) := by decide +kernel
theorem dX8_closeDoor_48 : decode cX8_closeDoor 48 = .ok (.iconst 1, 1) := by decide +kernel
theorem dX8_closeDoor_49 : decode cX8_closeDoor 49 = .ok (.ireturn, 1) := by decide +kernel
theorem dX8_haggle_0 : decode cX8_haggle 0 = .ok (.aload_n 0, 1) := by decide +kernel
theorem dX8_haggle_1 : decode cX8_haggle 1 = .ok (.getfield 10, 3) := by decide +kernel
theorem dX8_haggle_4 : decode cX8_haggle 4 = .ok (.iload_n 1, 1) := by decide +kernel
theorem dX8_haggle_5 : decode cX8_haggle 5 = .ok (.invokevirtual 102, 3) := by decide +kernel
theorem dX8_haggle_8 : decode cX8_haggle 8 = .ok (.ifCond .eq 14, 3) := by decide +kernel
theorem dX8_haggle_11 : decode cX8_haggle 11 = .ok (.aload_n 0, 1) := by decide +kernel
theorem dX8_haggle_12 : decode cX8_haggle 12 = .ok (.getfield 10, 3) := by decide +kernel
theorem dX8_haggle_15 : decode cX8_haggle 15 = .ok (.iload_n 2, 1) := by decide +kernel
theorem dX8_haggle_16 : decode cX8_haggle 16 = .ok (.invokevirtual 102, 3) := by decide +kernel
theorem dX8_haggle_19 : decode cX8_haggle 19 = .ok (.ifCond .ne 5, 3) := by decide +kernel
theorem dX8_haggle_22 : decode cX8_haggle 22 = .ok (.iconst (-1), 1) := by decide +kernel
theorem dX8_haggle_23 : decode cX8_haggle 23 = .ok (.ireturn, 1) := by decide +kernel
theorem dX8_haggle_24 : decode cX8_haggle 24 = .ok (.iload_n 3, 1) := by decide +kernel
theorem dX8_haggle_25 : decode cX8_haggle 25 = .ok (.iconst 1, 1) := by decide +kernel
theorem dX8_haggle_26 : decode cX8_haggle 26 = .ok (.bipush 20, 2) := by decide +kernel
theorem dX8_haggle_28 : decode cX8_haggle 28 = .ok (.invokestatic 47, 3) := by decide +kernel
theorem dX8_haggle_31 : decode cX8_haggle 31 = .ok (.ifCond .eq 32, 3) := by decide +kernel
theorem dX8_haggle_34 : decode cX8_haggle 34 = .ok (.iload 4, 2) := by decide +kernel
theorem dX8_haggle_36 : decode cX8_haggle 36 = .ok (.iconst 1, 1) := by decide +kernel
theorem dX8_haggle_37 : decode cX8_haggle 37 = .ok (.sipush 9999, 3) := by decide +kernel
theorem dX8_haggle_40 : decode cX8_haggle 40 = .ok (.invokestatic 47, 3) := by decide +kernel
theorem dX8_haggle_43 : decode cX8_haggle 43 = .ok (.ifCond .eq 20, 3) := by decide +kernel
theorem dX8_haggle_46 : decode cX8_haggle 46 = .ok (.iload 5, 2) := by decide +kernel
theorem dX8_haggle_48 : decode cX8_haggle 48 = .ok (.iconst 1, 1) := by decide +kernel
theorem dX8_haggle_49 : decode cX8_haggle 49 = .ok (.sipush 240, 3) := by decide +kernel
theorem dX8_haggle_52 : decode cX8_haggle 52 = .ok (.invokestatic 47, 3) := by decide +kernel
theorem dX8_haggle_55 : decode cX8_haggle 55 = .ok (.ifCond .eq 8, 3) := by decide +kernel
theorem dX8_haggle_58 : decode cX8_haggle 58 = .ok (.iload_n 1, 1) := by decide +kernel
theorem dX8_haggle_59 : decode cX8_haggle 59 = .ok (.iload_n 2, 1) := by decide +kernel
theorem dX8_haggle_60 : decode cX8_haggle 60 = .ok (.if_icmp .ne 6, 3) := by decide +kernel
theorem dX8_haggle_63 : decode cX8_haggle 63 = .ok (.bipush (-2), 2) := by decide +kernel
theorem dX8_haggle_65 : decode cX8_haggle 65 = .ok (.ireturn, 1) := by decide +kernel
theorem dX8_haggle_66 : decode cX8_haggle 66 = .ok (.aload_n 0, 1) := by decide +kernel
theorem dX8_haggle_67 : decode cX8_haggle 67 = .ok (.getfield 10, 3) := by decide +kernel
theorem dX8_haggle_70 : decode cX8_haggle 70 = .ok (.iload_n 2, 1) := by decide +kernel
theorem dX8_haggle_71 : decode cX8_haggle 71 = .ok (.invokevirtual 155, 3) := by decide +kernel
theorem dX8_haggle_74 : decode cX8_haggle 74 = .ok (.iload_n 3, 1) := by decide +kernel
theorem dX8_haggle_75 : decode cX8_haggle 75 = .ok (.if_icmp .lt 20, 3) := by decide +kernel
theorem dX8_haggle_78 : decode cX8_haggle 78 = .ok (.aload_n 0, 1) := by decide +kernel
theorem dX8_haggle_79 : decode cX8_haggle 79 = .ok (.getfield 10, 3) := by decide +kernel
theorem dX8_haggle_82 : decode cX8_haggle 82 = .ok (.getfield 158, 3) := by decide +kernel
theorem dX8_haggle_85 : decode cX8_haggle 85 = .ok (.iload_n 1, 1) := by decide +kernel
theorem dX8_haggle_86 : decode cX8_haggle 86 = .ok (.aaload, 1) := by decide +kernel
theorem dX8_haggle_87 : decode cX8_haggle 87 = .ok (.getfield 162, 3) := by decide +kernel
theorem dX8_haggle_90 : decode cX8_haggle 90 = .ok (.iload 4, 2) := by decide +kernel
theorem dX8_haggle_92 : decode cX8_haggle 92 = .ok (.if_icmp .ge 6, 3) := by decide +kernel
theorem dX8_haggle_95 : decode cX8_haggle 95 = .ok (.bipush (-4), 2) := by decide +kernel
theorem dX8_haggle_97 : decode cX8_haggle 97 = .ok (.ireturn, 1) := by decide +kernel
theorem dX8_haggle_98 : decode cX8_haggle 98 = .ok (.aload_n 0, 1) := by decide +kernel
theorem dX8_haggle_99 : decode cX8_haggle 99 = .ok (.getfield 10, 3) := by decide +kernel
theorem dX8_haggle_102 : decode cX8_haggle 102 = .ok (.getfield 167, 3) := by decide +kernel
theorem dX8_haggle_105 : decode cX8_haggle 105 = .ok (.bipush 10, 2) := by decide +kernel
theorem dX8_haggle_107 : decode cX8_haggle 107 = .ok (.if_icmp .lt 6, 3) := by decide +kernel
theorem dX8_haggle_110 : decode cX8_haggle 110 = .ok (.bipush (-3), 2) := by decide +kernel
theorem dX8_haggle_112 : decode cX8_haggle 112 = .ok (.ireturn, 1) := by decide +kernel
theorem dX8_haggle_113 : decode cX8_haggle 113 = .ok (.aload_n 0, 1) := by decide +kernel
theorem dX8_haggle_114 : decode cX8_haggle 114 = .ok (.getfield 25, 3) := by decide +kernel
theorem dX8_haggle_117 : decode cX8_haggle 117 = .ok (.aload_n 0, 1) := by decide +kernel
theorem dX8_haggle_118 : decode cX8_haggle 118 = .ok (.getfield 10, 3) := by decide +kernel
theorem dX8_haggle_121 : decode cX8_haggle 121 = .ok (.invokevirtual 55, 3) := by decide +kernel
theorem dX8_haggle_124 : decode cX8_haggle 124 = .ok (.aload_n 0, 1) := by decide +kernel
theorem dX8_haggle_125 : decode cX8_haggle 125 = .ok (.getfield 10, 3) := by decide +kernel
theorem dX8_haggle_128 : decode cX8_haggle 128 = .ok (.iload_n 2, 1) := by decide +kernel
theorem dX8_haggle_129 : decode cX8_haggle 129 = .ok (.iload_n 3, 1) := by decide +kernel
theorem dX8_haggle_130 : decode cX8_haggle 130 = .ok (.invokevirtual 170, 3) := by decide +kernel
theorem dX8_haggle_133 : decode cX8_haggle 133 = .ok (.istore 6, 2) := by decide +kernel
theorem dX8_haggle_135 : decode cX8_haggle 135 = .ok (.iload 4, 2) := by decide +kernel
theorem dX8_haggle_137 : decode cX8_haggle 137 = .ok (.iload 6, 2) := by decide +kernel
theorem dX8_haggle_139 : decode cX8_haggle 139 = .ok (.if_icmp .ge 28, 3) := by decide +kernel
theorem dX8_haggle_142 : decode cX8_haggle 142 = .ok (.aload_n 0, 1) := by decide +kernel
theorem dX8_haggle_143 : decode cX8_haggle 143 = .ok (.getfield 10, 3) := by decide +kernel
theorem dX8_haggle_146 : decode cX8_haggle 146 = .ok (.iload_n 1, 1) := by decide +kernel
theorem dX8_haggle_147 : decode cX8_haggle 147 = .ok (.iload_n 2, 1) := by decide +kernel
theorem dX8_haggle_148 : decode cX8_haggle 148 = .ok (.iconst 2, 1) := by decide +kernel
theorem dX8_haggle_149 : decode cX8_haggle 149 = .ok (.iload 4, 2) := by decide +kernel
theorem dX8_haggle_151 : decode cX8_haggle 151 = .ok (.imul, 1) := by decide +kernel
theorem dX8_haggle_152 : decode cX8_haggle 152 = .ok (.iload 6, 2) := by decide +kernel
theorem dX8_haggle_154 : decode cX8_haggle 154 = .ok (.if_icmp .lt 7, 3) := by decide +kernel
theorem dX8_haggle_157 : decode cX8_haggle 157 = .ok (.iconst 1, 1) := by decide +kernel
theorem dX8_haggle_158 : decode cX8_haggle 158 = .ok (.goto 4, 3) := by decide +kernel
theorem dX8_haggle_161 : decode cX8_haggle 161 = .ok (.iconst 0, 1) := by decide +kernel
theorem dX8_haggle_162 : decode cX8_haggle 162 = .ok (.invokevirtual 174, 3) := by decide +kernel
theorem dX8_haggle_165 : decode cX8_haggle 165 = .ok (.iconst 0, 1) := by decide +kernel
theorem dX8_haggle_166 : decode cX8_haggle 166 = .ok (.ireturn, 1) := by decide +kernel
theorem dX8_haggle_167 : decode cX8_haggle 167 = .ok (.iload 4, 2) := by decide +kernel
theorem dX8_haggle_169 : decode cX8_haggle 169 = .ok (.iload 6, 2) := by decide +kernel
theorem dX8_haggle_171 : decode cX8_haggle 171 = .ok (.iadd, 1) := by decide +kernel
theorem dX8_haggle_172 : decode cX8_haggle 172 = .ok (.iconst 2, 1) := by decide +kernel
theorem dX8_haggle_173 : decode cX8_haggle 173 = .ok (.idiv, 1) := by decide +kernel
theorem dX8_haggle_174 : decode cX8_haggle 174 = .ok (.istore 7, 2) := by decide +kernel
theorem dX8_haggle_176 : decode cX8_haggle 176 = .ok (.aload_n 0, 1) := by decide +kernel
theorem dX8_haggle_177 : decode cX8_haggle 177 = .ok (.getfield 10, 3) := by decide +kernel
theorem dX8_haggle_180 : decode cX8_haggle 180 = .ok (.iload_n 1, 1) := by decide +kernel
theorem dX8_haggle_181 : decode cX8_haggle 181 = .ok (.iload_n 2, 1) := by decide +kernel
theorem dX8_haggle_182 : decode cX8_haggle 182 = .ok (.iload 7, 2) := by decide +kernel
theorem dX8_haggle_184 : decode cX8_haggle 184 = .ok (.invokevirtual 178, 3) := by decide +kernel
theorem dX8_haggle_187 : decode cX8_haggle 187 = .ok (.aload_n 0, 1) := by decide +kernel
theorem dX8_haggle_188 : decode cX8_haggle 188 = .ok (.getfield 10, 3) := by decide +kernel
theorem dX8_haggle_191 : decode cX8_haggle 191 = .ok (.iload_n 1, 1) := by decide +kernel
theorem dX8_haggle_192 : decode cX8_haggle 192 = .ok (.iload_n 2, 1) := by decide +kernel
theorem dX8_haggle_193 : decode cX8_haggle 193 = .ok (.iload_n 3, 1) := by decide +kernel
theorem dX8_haggle_194 : decode cX8_haggle 194 = .ok (.iload 5, 2) := by decide +kernel
theorem dX8_haggle_196 : decode cX8_haggle 196 = .ok (.iload 7, 2) := by decide +kernel
theorem dX8_haggle_198 : decode cX8_haggle 198 = .ok (.invokevirtual 182, 3) := by decide +kernel
theorem dX8_haggle_201 : decode cX8_haggle 201 = .ok (.iload 7, 2) := by decide +kernel
theorem dX8_haggle_203 : decode cX8_haggle 203 = .ok (.ireturn, 1) := by decide +kernel
theorem dX8_undo_0 : decode cX8_undo 0 = .ok (.aload_n 0, 1) := by decide +kernel
theorem dX8_undo_1 : decode cX8_undo 1 = .ok (.getfield 25, 3) := by decide +kernel
theorem dX8_undo_4 : decode cX8_undo 4 = .ok (.aload_n 0, 1) := by decide +kernel
theorem dX8_undo_5 : decode cX8_undo 5 = .ok (.getfield 10, 3) := by decide +kernel
theorem dX8_undo_8 : decode cX8_undo 8 = .ok (.invokevirtual 186, 3) := by decide +kernel
theorem dX8_undo_11 : decode cX8_undo 11 = .ok (.ifCond .eq 13, 3) := by decide +kernel
theorem dX8_undo_14 : decode cX8_undo 14 = .ok (.aload_n 0, 1) := by decide +kernel
theorem dX8_undo_15 : decode cX8_undo 15 = .ok (.getfield 25, 3) := by decide +kernel
theorem dX8_undo_18 : decode cX8_undo 18 = .ok (.getfield 190, 3) := by decide +kernel
theorem dX8_undo_21 : decode cX8_undo 21 = .ok (.goto 5, 3) := by decide +kernel
theorem dX8_undo_24 : decode cX8_undo 24 = .ok (.bipush (-5), 2) := by decide +kernel
theorem dX8_undo_26 : decode cX8_undo 26 = .ok (.ireturn, 1) := by decide +kernel
theorem dX8_keep_0 : decode cX8_keep 0 = .ok (.aload_n 0, 1) := by decide +kernel
theorem dX8_keep_1 : decode cX8_keep 1 = .ok (.getfield 19, 3) := by decide +kernel
theorem dX8_keep_4 : decode cX8_keep 4 = .ok (.aload_n 0, 1) := by decide +kernel
theorem dX8_keep_5 : decode cX8_keep 5 = .ok (.getfield 10, 3) := by decide +kernel
theorem dX8_keep_8 : decode cX8_keep 8 = .ok (.invokevirtual 193, 3) := by decide +kernel
theorem dX8_keep_11 : decode cX8_keep 11 = .ok (.aload_n 0, 1) := by decide +kernel
theorem dX8_keep_12 : decode cX8_keep 12 = .ok (.iconst 1, 1) := by decide +kernel
theorem dX8_keep_13 : decode cX8_keep 13 = .ok (.putfield 43, 3) := by decide +kernel
theorem dX8_keep_16 : decode cX8_keep 16 = .ok (.aload_n 0, 1) := by decide +kernel
theorem dX8_keep_17 : decode cX8_keep 17 = .ok (.getfield 10, 3) := by decide +kernel
theorem dX8_keep_20 : decode cX8_keep 20 = .ok (.getfield 196, 3) := by decide +kernel
theorem dX8_keep_23 : decode cX8_keep 23 = .ok (.ireturn, 1) := by decide +kernel
theorem dX8_restore_0 : decode cX8_restore 0 = .ok (.aload_n 0, 1) := by decide +kernel
theorem dX8_restore_1 : decode cX8_restore 1 = .ok (.getfield 43, 3) := by decide +kernel
theorem dX8_restore_4 : decode cX8_restore 4 = .ok (.ifCond .ne 6, 3) := by decide +kernel
theorem dX8_restore_7 : decode cX8_restore 7 = .ok (.bipush (-5), 2) := by decide +kernel
theorem dX8_restore_9 : decode cX8_restore 9 = .ok (.ireturn, 1) := by decide +kernel
theorem dX8_restore_10 : decode cX8_restore 10 = .ok (.aload_n 0, 1) := by decide +kernel
theorem dX8_restore_11 : decode cX8_restore 11 = .ok (.getfield 25, 3) := by decide +kernel
theorem dX8_restore_14 : decode cX8_restore 14 = .ok (.aload_n 0, 1) := by decide +kernel
theorem dX8_restore_15 : decode cX8_restore 15 = .ok (.getfield 10, 3) := by decide +kernel
theorem dX8_restore_18 : decode cX8_restore 18 = .ok (.invokevirtual 55, 3) := by decide +kernel
theorem dX8_restore_21 : decode cX8_restore 21 = .ok (.aload_n 0, 1) := by decide +kernel
theorem dX8_restore_22 : decode cX8_restore 22 = .ok (.getfield 10, 3) := by decide +kernel
theorem dX8_restore_25 : decode cX8_restore 25 = .ok (.aload_n 0, 1) := by decide +kernel
theorem dX8_restore_26 : decode cX8_restore 26 = .ok (.getfield 19, 3) := by decide +kernel
theorem dX8_restore_29 : decode cX8_restore 29 = .ok (.invokevirtual 193, 3) := by decide +kernel
theorem dX8_restore_32 : decode cX8_restore 32 = .ok (.aload_n 0, 1) := by decide +kernel
theorem dX8_restore_33 : decode cX8_restore 33 = .ok (.getfield 10, 3) := by decide +kernel
theorem dX8_restore_36 : decode cX8_restore 36 = .ok (.getfield 196, 3) := by decide +kernel
theorem dX8_restore_39 : decode cX8_restore 39 = .ok (.ireturn, 1) := by decide +kernel
theorem dX8_house_0 : decode cX8_house 0 = .ok (.aload_n 0, 1) := by decide +kernel
theorem dX8_house_1 : decode cX8_house 1 = .ok (.getfield 10, 3) := by decide +kernel
theorem dX8_house_4 : decode cX8_house 4 = .ok (.iload_n 1, 1) := by decide +kernel
theorem dX8_house_5 : decode cX8_house 5 = .ok (.invokevirtual 102, 3) := by decide +kernel
theorem dX8_house_8 : decode cX8_house 8 = .ok (.ifCond .ne 5, 3) := by decide +kernel
theorem dX8_house_11 : decode cX8_house 11 = .ok (.iconst (-1), 1) := by decide +kernel
theorem dX8_house_12 : decode cX8_house 12 = .ok (.ireturn, 1) := by decide +kernel
theorem dX8_house_13 : decode cX8_house 13 = .ok (.iload_n 2, 1) := by decide +kernel
theorem dX8_house_14 : decode cX8_house 14 = .ok (.ifCond .ne 14, 3) := by decide +kernel
theorem dX8_house_17 : decode cX8_house 17 = .ok (.aload_n 0, 1) := by decide +kernel
theorem dX8_house_18 : decode cX8_house 18 = .ok (.getfield 10, 3) := by decide +kernel
theorem dX8_house_21 : decode cX8_house 21 = .ok (.iload_n 1, 1) := by decide +kernel
theorem dX8_house_22 : decode cX8_house 22 = .ok (.invokevirtual 199, 3) := by decide +kernel
theorem dX8_house_25 : decode cX8_house 25 = .ok (.goto 16, 3) := by decide +kernel
theorem dX8_house_28 : decode cX8_house 28 = .ok (.aload_n 0, 1) := by decide +kernel
theorem dX8_house_29 : decode cX8_house 29 = .ok (.getfield 10, 3) := by decide +kernel
theorem dX8_house_32 : decode cX8_house 32 = .ok (.getfield 158, 3) := by decide +kernel
theorem dX8_house_35 : decode cX8_house 35 = .ok (.iload_n 1, 1) := by decide +kernel
theorem dX8_house_36 : decode cX8_house 36 = .ok (.aaload, 1) := by decide +kernel
theorem dX8_house_37 : decode cX8_house 37 = .ok (.iload_n 2, 1) := by decide +kernel
theorem dX8_house_38 : decode cX8_house 38 = .ok (.invokevirtual 202, 3) := by decide +kernel
theorem dX8_house_41 : decode cX8_house 41 = .ok (.ireturn, 1) := by decide +kernel
theorem dX8_washer_0 : decode cX8_washer 0 = .ok (.aload_n 0, 1) := by decide +kernel
theorem dX8_washer_1 : decode cX8_washer 1 = .ok (.getfield 10, 3) := by decide +kernel
theorem dX8_washer_4 : decode cX8_washer 4 = .ok (.iload_n 1, 1) := by decide +kernel
theorem dX8_washer_5 : decode cX8_washer 5 = .ok (.invokevirtual 102, 3) := by decide +kernel
theorem dX8_washer_8 : decode cX8_washer 8 = .ok (.ifCond .eq 18, 3) := by decide +kernel
theorem dX8_washer_11 : decode cX8_washer 11 = .ok (.aload_n 0, 1) := by decide +kernel
theorem dX8_washer_12 : decode cX8_washer 12 = .ok (.getfield 10, 3) := by decide +kernel
theorem dX8_washer_15 : decode cX8_washer 15 = .ok (.iload_n 1, 1) := by decide +kernel
theorem dX8_washer_16 : decode cX8_washer 16 = .ok (.invokevirtual 120, 3) := by decide +kernel
theorem dX8_washer_19 : decode cX8_washer 19 = .ok (.iload_n 2, 1) := by decide +kernel
theorem dX8_washer_20 : decode cX8_washer 20 = .ok (.invokevirtual 205, 3) := by decide +kernel
theorem dX8_washer_23 : decode cX8_washer 23 = .ok (.goto 4, 3) := by decide +kernel
theorem dX8_washer_26 : decode cX8_washer 26 = .ok (.iconst (-1), 1) := by decide +kernel
theorem dX8_washer_27 : decode cX8_washer 27 = .ok (.ireturn, 1) := by decide +kernel
theorem dX8_phase_0 : decode cX8_phase 0 = .ok (.aload_n 0, 1) := by decide +kernel
theorem dX8_phase_1 : decode cX8_phase 1 = .ok (.getfield 10, 3) := by decide +kernel
theorem dX8_phase_4 : decode cX8_phase 4 = .ok (.iload_n 1, 1) := by decide +kernel
theorem dX8_phase_5 : decode cX8_phase 5 = .ok (.invokevirtual 102, 3) := by decide +kernel
theorem dX8_phase_8 : decode cX8_phase 8 = .ok (.ifCond .ne 5, 3) := by decide +kernel
theorem dX8_phase_11 : decode cX8_phase 11 = .ok (.iconst (-1), 1) := by decide +kernel
theorem dX8_phase_12 : decode cX8_phase 12 = .ok (.ireturn, 1) := by decide +kernel
theorem dX8_phase_13 : decode cX8_phase 13 = .ok (.aload_n 0, 1) := by decide +kernel
theorem dX8_phase_14 : decode cX8_phase 14 = .ok (.getfield 10, 3) := by decide +kernel
theorem dX8_phase_17 : decode cX8_phase 17 = .ok (.iload_n 1, 1) := by decide +kernel
theorem dX8_phase_18 : decode cX8_phase 18 = .ok (.invokevirtual 120, 3) := by decide +kernel
theorem dX8_phase_21 : decode cX8_phase 21 = .ok (.getfield 129, 3) := by decide +kernel
theorem dX8_phase_24 : decode cX8_phase 24 = .ok (.astore 4, 2) := by decide +kernel
theorem dX8_phase_26 : decode cX8_phase 26 = .ok (.aload 4, 2) := by decide +kernel
theorem dX8_phase_28 : decode cX8_phase 28 = .ok (.iload_n 2, 1) := by decide +kernel
theorem dX8_phase_29 : decode cX8_phase 29 = .ok (.invokevirtual 206, 3) := by decide +kernel
theorem dX8_phase_32 : decode cX8_phase 32 = .ok (.ifCond .ne 5, 3) := by decide +kernel
theorem dX8_phase_35 : decode cX8_phase 35 = .ok (.iconst (-1), 1) := by decide +kernel
theorem dX8_phase_36 : decode cX8_phase 36 = .ok (.ireturn, 1) := by decide +kernel
theorem dX8_phase_37 : decode cX8_phase 37 = .ok (.iload_n 3, 1) := by decide +kernel
theorem dX8_phase_38 : decode cX8_phase 38 = .ok (.lookupswitch 40 #[(0, 26), (1, 33)], 26) := by decide +kernel
theorem dX8_phase_64 : decode cX8_phase 64 = .ok (.aload 4, 2) := by decide +kernel
theorem dX8_phase_66 : decode cX8_phase 66 = .ok (.iload_n 2, 1) := by decide +kernel
theorem dX8_phase_67 : decode cX8_phase 67 = .ok (.invokevirtual 209, 3) := by decide +kernel
theorem dX8_phase_70 : decode cX8_phase 70 = .ok (.ireturn, 1) := by decide +kernel
theorem dX8_phase_71 : decode cX8_phase 71 = .ok (.aload 4, 2) := by decide +kernel
theorem dX8_phase_73 : decode cX8_phase 73 = .ok (.iload_n 2, 1) := by decide +kernel
theorem dX8_phase_74 : decode cX8_phase 74 = .ok (.invokevirtual 213, 3) := by decide +kernel
theorem dX8_phase_77 : decode cX8_phase 77 = .ok (.ireturn, 1) := by decide +kernel
theorem dX8_phase_78 : decode cX8_phase 78 = .ok (.bipush (-2), 2) := by decide +kernel
theorem dX8_phase_80 : decode cX8_phase 80 = .ok (.ireturn, 1) := by decide +kernel
theorem dX8_boiler_0 : decode cX8_boiler 0 = .ok (.iload_n 1, 1) := by decide +kernel
theorem dX8_boiler_1 : decode cX8_boiler 1 = .ok (.tableswitch 119 0 7 #[47, 55, 65, 75, 85, 93, 101, 109], 47) := by decide +kernel
theorem dX8_boiler_48 : decode cX8_boiler 48 = .ok (.aload_n 0, 1) := by decide +kernel
theorem dX8_boiler_49 : decode cX8_boiler 49 = .ok (.getfield 10, 3) := by decide +kernel
theorem dX8_boiler_52 : decode cX8_boiler 52 = .ok (.getfield 70, 3) := by decide +kernel
theorem dX8_boiler_55 : decode cX8_boiler 55 = .ok (.ireturn, 1) := by decide +kernel
theorem dX8_boiler_56 : decode cX8_boiler 56 = .ok (.aload_n 0, 1) := by decide +kernel
theorem dX8_boiler_57 : decode cX8_boiler 57 = .ok (.getfield 10, 3) := by decide +kernel
theorem dX8_boiler_60 : decode cX8_boiler 60 = .ok (.getfield 77, 3) := by decide +kernel
theorem dX8_boiler_63 : decode cX8_boiler 63 = .ok (.iconst 0, 1) := by decide +kernel
theorem dX8_boiler_64 : decode cX8_boiler 64 = .ok (.iaload, 1) := by decide +kernel
theorem dX8_boiler_65 : decode cX8_boiler 65 = .ok (.ireturn, 1) := by decide +kernel
theorem dX8_boiler_66 : decode cX8_boiler 66 = .ok (.aload_n 0, 1) := by decide +kernel
theorem dX8_boiler_67 : decode cX8_boiler 67 = .ok (.getfield 10, 3) := by decide +kernel
theorem dX8_boiler_70 : decode cX8_boiler 70 = .ok (.getfield 77, 3) := by decide +kernel
theorem dX8_boiler_73 : decode cX8_boiler 73 = .ok (.iconst 1, 1) := by decide +kernel
theorem dX8_boiler_74 : decode cX8_boiler 74 = .ok (.iaload, 1) := by decide +kernel
theorem dX8_boiler_75 : decode cX8_boiler 75 = .ok (.ireturn, 1) := by decide +kernel
theorem dX8_boiler_76 : decode cX8_boiler 76 = .ok (.aload_n 0, 1) := by decide +kernel
theorem dX8_boiler_77 : decode cX8_boiler 77 = .ok (.getfield 10, 3) := by decide +kernel
theorem dX8_boiler_80 : decode cX8_boiler 80 = .ok (.getfield 77, 3) := by decide +kernel
theorem dX8_boiler_83 : decode cX8_boiler 83 = .ok (.iconst 2, 1) := by decide +kernel
theorem dX8_boiler_84 : decode cX8_boiler 84 = .ok (.iaload, 1) := by decide +kernel
theorem dX8_boiler_85 : decode cX8_boiler 85 = .ok (.ireturn, 1) := by decide +kernel
theorem dX8_boiler_86 : decode cX8_boiler 86 = .ok (.aload_n 0, 1) := by decide +kernel
theorem dX8_boiler_87 : decode cX8_boiler 87 = .ok (.getfield 10, 3) := by decide +kernel
theorem dX8_boiler_90 : decode cX8_boiler 90 = .ok (.getfield 216, 3) := by decide +kernel
theorem dX8_boiler_93 : decode cX8_boiler 93 = .ok (.ireturn, 1) := by decide +kernel
theorem dX8_boiler_94 : decode cX8_boiler 94 = .ok (.aload_n 0, 1) := by decide +kernel
theorem dX8_boiler_95 : decode cX8_boiler 95 = .ok (.getfield 10, 3) := by decide +kernel
theorem dX8_boiler_98 : decode cX8_boiler 98 = .ok (.getfield 219, 3) := by decide +kernel
theorem dX8_boiler_101 : decode cX8_boiler 101 = .ok (.ireturn, 1) := by decide +kernel
theorem dX8_boiler_102 : decode cX8_boiler 102 = .ok (.aload_n 0, 1) := by decide +kernel
theorem dX8_boiler_103 : decode cX8_boiler 103 = .ok (.getfield 10, 3) := by decide +kernel
theorem dX8_boiler_106 : decode cX8_boiler 106 = .ok (.invokevirtual 222, 3) := by decide +kernel
theorem dX8_boiler_109 : decode cX8_boiler 109 = .ok (.ireturn, 1) := by decide +kernel
theorem dX8_boiler_110 : decode cX8_boiler 110 = .ok (.aload_n 0, 1) := by decide +kernel
theorem dX8_boiler_111 : decode cX8_boiler 111 = .ok (.getfield 10, 3) := by decide +kernel
theorem dX8_boiler_114 : decode cX8_boiler 114 = .ok (.getfield 77, 3) := by decide +kernel
theorem dX8_boiler_117 : decode cX8_boiler 117 = .ok (.iconst 3, 1) := by decide +kernel
theorem dX8_boiler_118 : decode cX8_boiler 118 = .ok (.iaload, 1) := by decide +kernel
theorem dX8_boiler_119 : decode cX8_boiler 119 = .ok (.ireturn, 1) := by decide +kernel
theorem dX8_boiler_120 : decode cX8_boiler 120 = .ok (.bipush (-2), 2) := by decide +kernel
theorem dX8_boiler_122 : decode cX8_boiler 122 = .ok (.ireturn, 1) := by decide +kernel
theorem dX8_heatNext_0 : decode cX8_heatNext 0 = .ok (.aload_n 0, 1) := by decide +kernel
theorem dX8_heatNext_1 : decode cX8_heatNext 1 = .ok (.getfield 10, 3) := by decide +kernel
theorem dX8_heatNext_4 : decode cX8_heatNext 4 = .ok (.iload_n 1, 1) := by decide +kernel
theorem dX8_heatNext_5 : decode cX8_heatNext 5 = .ok (.invokevirtual 102, 3) := by decide +kernel
theorem dX8_heatNext_8 : decode cX8_heatNext 8 = .ok (.ifCond .ne 5, 3) := by decide +kernel
theorem dX8_heatNext_11 : decode cX8_heatNext 11 = .ok (.iconst (-1), 1) := by decide +kernel
theorem dX8_heatNext_12 : decode cX8_heatNext 12 = .ok (.ireturn, 1) := by decide +kernel
theorem dX8_heatNext_13 : decode cX8_heatNext 13 = .ok (.aload_n 0, 1) := by decide +kernel
theorem dX8_heatNext_14 : decode cX8_heatNext 14 = .ok (.getfield 10, 3) := by decide +kernel
theorem dX8_heatNext_17 : decode cX8_heatNext 17 = .ok (.getfield 80, 3) := by decide +kernel
theorem dX8_heatNext_20 : decode cX8_heatNext 20 = .ok (.ifCond .ne 5, 3) := by decide +kernel
theorem dX8_heatNext_23 : decode cX8_heatNext 23 = .ok (.iconst 0, 1) := by decide +kernel
theorem dX8_heatNext_24 : decode cX8_heatNext 24 = .ok (.ireturn, 1) := by decide +kernel
theorem dX8_heatNext_25 : decode cX8_heatNext 25 = .ok (.aload_n 0, 1) := by decide +kernel
theorem dX8_heatNext_26 : decode cX8_heatNext 26 = .ok (.getfield 10, 3) := by decide +kernel
theorem dX8_heatNext_29 : decode cX8_heatNext 29 = .ok (.aload_n 0, 1) := by decide +kernel
theorem dX8_heatNext_30 : decode cX8_heatNext 30 = .ok (.getfield 32, 3) := by decide +kernel
theorem dX8_heatNext_33 : decode cX8_heatNext 33 = .ok (.invokevirtual 225, 3) := by decide +kernel
theorem dX8_heatNext_36 : decode cX8_heatNext 36 = .ok (.aload_n 0, 1) := by decide +kernel
theorem dX8_heatNext_37 : decode cX8_heatNext 37 = .ok (.getfield 32, 3) := by decide +kernel
theorem dX8_heatNext_40 : decode cX8_heatNext 40 = .ok (.getfield 229, 3) := by decide +kernel
theorem dX8_heatNext_43 : decode cX8_heatNext 43 = .ok (.iload_n 1, 1) := by decide +kernel
theorem dX8_heatNext_44 : decode cX8_heatNext 44 = .ok (.iaload, 1) := by decide +kernel
theorem dX8_heatNext_45 : decode cX8_heatNext 45 = .ok (.ireturn, 1) := by decide +kernel
theorem dX8_lease_0 : decode cX8_lease 0 = .ok (.iload_n 1, 1) := by decide +kernel
theorem dX8_lease_1 : decode cX8_lease 1 = .ok (.iconst 0, 1) := by decide +kernel
theorem dX8_lease_2 : decode cX8_lease 2 = .ok (.aload_n 0, 1) := by decide +kernel
theorem dX8_lease_3 : decode cX8_lease 3 = .ok (.getfield 10, 3) := by decide +kernel
theorem dX8_lease_6 : decode cX8_lease 6 = .ok (.getfield 167, 3) := by decide +kernel
theorem dX8_lease_9 : decode cX8_lease 9 = .ok (.iconst 1, 1) := by decide +kernel
theorem dX8_lease_10 : decode cX8_lease 10 = .ok (.isub, 1) := by decide +kernel
theorem dX8_lease_11 : decode cX8_lease 11 = .ok (.invokestatic 47, 3) := by decide +kernel
theorem dX8_lease_14 : decode cX8_lease 14 = .ok (.ifCond .eq 19, 3) := by decide +kernel
theorem dX8_lease_17 : decode cX8_lease 17 = .ok (.aload_n 0, 1) := by decide +kernel
theorem dX8_lease_18 : decode cX8_lease 18 = .ok (.getfield 10, 3) := by decide +kernel
theorem dX8_lease_21 : decode cX8_lease 21 = .ok (.getfield 232, 3) := by decide +kernel
theorem dX8_lease_24 : decode cX8_lease 24 = .ok (.iload_n 1, 1) := by decide +kernel
theorem dX8_lease_25 : decode cX8_lease 25 = .ok (.aaload, 1) := by decide +kernel
theorem dX8_lease_26 : decode cX8_lease 26 = .ok (.iload_n 2, 1) := by decide +kernel
theorem dX8_lease_27 : decode cX8_lease 27 = .ok (.invokevirtual 236, 3) := by decide +kernel
theorem dX8_lease_30 : decode cX8_lease 30 = .ok (.goto 4, 3) := by decide +kernel
theorem dX8_lease_33 : decode cX8_lease 33 = .ok (.iconst (-1), 1) := by decide +kernel
theorem dX8_lease_34 : decode cX8_lease 34 = .ok (.ireturn, 1) := by decide +kernel
theorem dX8_ask_0 : decode cX8_ask 0 = .ok (.aload_n 0, 1) := by decide +kernel
theorem dX8_ask_1 : decode cX8_ask 1 = .ok (.getfield 10, 3) := by decide +kernel
theorem dX8_ask_4 : decode cX8_ask 4 = .ok (.iload_n 1, 1) := by decide +kernel
theorem dX8_ask_5 : decode cX8_ask 5 = .ok (.invokevirtual 102, 3) := by decide +kernel
theorem dX8_ask_8 : decode cX8_ask 8 = .ok (.ifCond .ne 5, 3) := by decide +kernel
theorem dX8_ask_11 : decode cX8_ask 11 = .ok (.iconst (-1), 1) := by decide +kernel
theorem dX8_ask_12 : decode cX8_ask 12 = .ok (.ireturn, 1) := by decide +kernel
theorem dX8_ask_13 : decode cX8_ask 13 = .ok (.iload_n 2, 1) := by decide +kernel
theorem dX8_ask_14 : decode cX8_ask 14 = .ok (.iconst 1, 1) := by decide +kernel
theorem dX8_ask_15 : decode cX8_ask 15 = .ok (.bipush 20, 2) := by decide +kernel
theorem dX8_ask_17 : decode cX8_ask 17 = .ok (.invokestatic 47, 3) := by decide +kernel
theorem dX8_ask_20 : decode cX8_ask 20 = .ok (.ifCond .ne 6, 3) := by decide +kernel
theorem dX8_ask_23 : decode cX8_ask 23 = .ok (.bipush (-2), 2) := by decide +kernel
theorem dX8_ask_25 : decode cX8_ask 25 = .ok (.ireturn, 1) := by decide +kernel
theorem dX8_ask_26 : decode cX8_ask 26 = .ok (.aload_n 0, 1) := by decide +kernel
theorem dX8_ask_27 : decode cX8_ask 27 = .ok (.getfield 10, 3) := by decide +kernel
theorem dX8_ask_30 : decode cX8_ask 30 = .ok (.iload_n 1, 1) := by decide +kernel
theorem dX8_ask_31 : decode cX8_ask 31 = .ok (.invokevirtual 155, 3) := by decide +kernel
theorem dX8_ask_34 : decode cX8_ask 34 = .ok (.iload_n 2, 1) := by decide +kernel
theorem dX8_ask_35 : decode cX8_ask 35 = .ok (.if_icmp .ge 8, 3) := by decide +kernel
theorem dX8_ask_38 : decode cX8_ask 38 = .ok (.bipush (-4), 2) := by decide +kernel
theorem dX8_ask_40 : decode cX8_ask 40 = .ok (.goto 12, 3) := by decide +kernel
theorem dX8_ask_43 : decode cX8_ask 43 = .ok (.aload_n 0, 1) := by decide +kernel
theorem dX8_ask_44 : decode cX8_ask 44 = .ok (.getfield 10, 3) := by decide +kernel
theorem dX8_ask_47 : decode cX8_ask 47 = .ok (.iload_n 1, 1) := by decide +kernel
theorem dX8_ask_48 : decode cX8_ask 48 = .ok (.iload_n 2, 1) := by decide +kernel
theorem dX8_ask_49 : decode cX8_ask 49 = .ok (.invokevirtual 170, 3) := by decide +kernel
theorem dX8_ask_52 : decode cX8_ask 52 = .ok (.ireturn, 1) := by decide +kernel
theorem dX8_overIn_0 : decode cX8_overIn 0 = .ok (.aload_n 0, 1) := by decide +kernel
theorem dX8_overIn_1 : decode cX8_overIn 1 = .ok (.getfield 10, 3) := by decide +kernel
theorem dX8_overIn_4 : decode cX8_overIn 4 = .ok (.iload_n 1, 1) := by decide +kernel
theorem dX8_overIn_5 : decode cX8_overIn 5 = .ok (.invokevirtual 102, 3) := by decide +kernel
theorem dX8_overIn_8 : decode cX8_overIn 8 = .ok (.ifCond .ne 5, 3) := by decide +kernel
theorem dX8_overIn_11 : decode cX8_overIn 11 = .ok (.iconst (-1), 1) := by decide +kernel
theorem dX8_overIn_12 : decode cX8_overIn 12 = .ok (.ireturn, 1) := by decide +kernel
theorem dX8_overIn_13 : decode cX8_overIn 13 = .ok (.aload_n 0, 1) := by decide +kernel
theorem dX8_overIn_14 : decode cX8_overIn 14 = .ok (.getfield 10, 3) := by decide +kernel
theorem dX8_overIn_17 : decode cX8_overIn 17 = .ok (.iload_n 1, 1) := by decide +kernel
theorem dX8_overIn_18 : decode cX8_overIn 18 = .ok (.invokevirtual 120, 3) := by decide +kernel
theorem dX8_overIn_21 : decode cX8_overIn 21 = .ok (.getfield 124, 3) := by decide +kernel
theorem dX8_overIn_24 : decode cX8_overIn 24 = .ok (.iconst 1, 1) := by decide +kernel
theorem dX8_overIn_25 : decode cX8_overIn 25 = .ok (.if_icmp .eq 6, 3) := by decide +kernel
theorem dX8_overIn_28 : decode cX8_overIn 28 = .ok (.bipush (-4), 2) := by decide +kernel
theorem dX8_overIn_30 : decode cX8_overIn 30 = .ok (.ireturn, 1) := by decide +kernel
theorem dX8_overIn_31 : decode cX8_overIn 31 = .ok (.aload_n 0, 1) := by decide +kernel
theorem dX8_overIn_32 : decode cX8_overIn 32 = .ok (.getfield 16, 3) := by decide +kernel
theorem dX8_overIn_35 : decode cX8_overIn 35 = .ok (.aload_n 0, 1) := by decide +kernel
theorem dX8_overIn_36 : decode cX8_overIn 36 = .ok (.getfield 10, 3) := by decide +kernel
theorem dX8_overIn_39 : decode cX8_overIn 39 = .ok (.invokevirtual 193, 3) := by decide +kernel
theorem dX8_overIn_42 : decode cX8_overIn 42 = .ok (.aload_n 0, 1) := by decide +kernel
theorem dX8_overIn_43 : decode cX8_overIn 43 = .ok (.getfield 16, 3) := by decide +kernel
theorem dX8_overIn_46 : decode cX8_overIn 46 = .ok (.iload_n 1, 1) := by decide +kernel
theorem dX8_overIn_47 : decode cX8_overIn 47 = .ok (.invokevirtual 120, 3) := by decide +kernel
theorem dX8_overIn_50 : decode cX8_overIn 50 = .ok (.astore_n 2, 1) := by decide +kernel
theorem dX8_overIn_51 : decode cX8_overIn 51 = .ok (.iconst 0, 1) := by decide +kernel
theorem dX8_overIn_52 : decode cX8_overIn 52 = .ok (.istore_n 3, 1) := by decide +kernel
theorem dX8_overIn_53 : decode cX8_overIn 53 = .ok (.iload_n 3, 1) := by decide +kernel
theorem dX8_overIn_54 : decode cX8_overIn 54 = .ok (.sipush 600, 3) := by decide +kernel
theorem dX8_overIn_57 : decode cX8_overIn 57 = .ok (.if_icmp .ge 29, 3) := by decide +kernel
theorem dX8_overIn_60 : decode cX8_overIn 60 = .ok (.aload_n 2, 1) := by decide +kernel
theorem dX8_overIn_61 : decode cX8_overIn 61 = .ok (.getfield 124, 3) := by decide +kernel
theorem dX8_overIn_64 : decode cX8_overIn 64 = .ok (.iconst 1, 1) := by decide +kernel
theorem dX8_overIn_65 : decode cX8_overIn 65 = .ok (.if_icmp .ne 21, 3) := by decide +kernel
theorem dX8_overIn_68 : decode cX8_overIn 68 = .ok (.aload_n 0, 1) := by decide +kernel
theorem dX8_overIn_69 : decode cX8_overIn 69 = .ok (.getfield 16, 3) := by decide +kernel
theorem dX8_overIn_72 : decode cX8_overIn 72 = .ok (.aload_n 0, 1) := by decide +kernel
theorem dX8_overIn_73 : decode cX8_overIn 73 = .ok (.getfield 32, 3) := by decide +kernel
theorem dX8_overIn_76 : decode cX8_overIn 76 = .ok (.invokevirtual 91, 3) := by decide +kernel
theorem dX8_overIn_79 : decode cX8_overIn 79 = .ok (.pop, 1) := by decide +kernel
theorem dX8_overIn_80 : decode cX8_overIn 80 = .ok (.iinc 3 1, 3) := by decide +kernel
theorem dX8_overIn_83 : decode cX8_overIn 83 = .ok (.goto (-30), 3) := by decide +kernel
theorem dX8_overIn_86 : decode cX8_overIn 86 = .ok (.aload_n 2, 1) := by decide +kernel
theorem dX8_overIn_87 : decode cX8_overIn 87 = .ok (.getfield 124, 3) := by decide +kernel
theorem dX8_overIn_90 : decode cX8_overIn 90 = .ok (.ifCond .ne 7, 3) := by decide +kernel
theorem dX8_overIn_93 : decode cX8_overIn 93 = .ok (.iload_n 3, 1) := by decide +kernel
theorem dX8_overIn_94 : decode cX8_overIn 94 = .ok (.goto 5, 3) := by decide +kernel
theorem dX8_overIn_97 : decode cX8_overIn 97 = .ok (.bipush (-5), 2) := by decide +kernel
theorem dX8_overIn_99 : decode cX8_overIn 99 = .ok (.ireturn, 1) := by decide +kernel
theorem dX8_freeIn_0 : decode cX8_freeIn 0 = .ok (.aload_n 0, 1) := by decide +kernel
theorem dX8_freeIn_1 : decode cX8_freeIn 1 = .ok (.getfield 10, 3) := by decide +kernel
theorem dX8_freeIn_4 : decode cX8_freeIn 4 = .ok (.iload_n 1, 1) := by decide +kernel
theorem dX8_freeIn_5 : decode cX8_freeIn 5 = .ok (.invokevirtual 102, 3) := by decide +kernel
theorem dX8_freeIn_8 : decode cX8_freeIn 8 = .ok (.ifCond .ne 5, 3) := by decide +kernel
theorem dX8_freeIn_11 : decode cX8_freeIn 11 = .ok (.iconst (-1), 1) := by decide +kernel
theorem dX8_freeIn_12 : decode cX8_freeIn 12 = .ok (.ireturn, 1) := by decide +kernel
theorem dX8_freeIn_13 : decode cX8_freeIn 13 = .ok (.aload_n 0, 1) := by decide +kernel
theorem dX8_freeIn_14 : decode cX8_freeIn 14 = .ok (.getfield 16, 3) := by decide +kernel
theorem dX8_freeIn_17 : decode cX8_freeIn 17 = .ok (.aload_n 0, 1) := by decide +kernel
theorem dX8_freeIn_18 : decode cX8_freeIn 18 = .ok (.getfield 10, 3) := by decide +kernel
theorem dX8_freeIn_21 : decode cX8_freeIn 21 = .ok (.invokevirtual 193, 3) := by decide +kernel
theorem dX8_freeIn_24 : decode cX8_freeIn 24 = .ok (.aload_n 0, 1) := by decide +kernel
theorem dX8_freeIn_25 : decode cX8_freeIn 25 = .ok (.getfield 16, 3) := by decide +kernel
theorem dX8_freeIn_28 : decode cX8_freeIn 28 = .ok (.iload_n 1, 1) := by decide +kernel
theorem dX8_freeIn_29 : decode cX8_freeIn 29 = .ok (.invokevirtual 120, 3) := by decide +kernel
theorem dX8_freeIn_32 : decode cX8_freeIn 32 = .ok (.astore_n 2, 1) := by decide +kernel
theorem dX8_freeIn_33 : decode cX8_freeIn 33 = .ok (.iconst 0, 1) := by decide +kernel
theorem dX8_freeIn_34 : decode cX8_freeIn 34 = .ok (.istore_n 3, 1) := by decide +kernel
theorem dX8_freeIn_35 : decode cX8_freeIn 35 = .ok (.iload_n 3, 1) := by decide +kernel
theorem dX8_freeIn_36 : decode cX8_freeIn 36 = .ok (.sipush 600, 3) := by decide +kernel
theorem dX8_freeIn_39 : decode cX8_freeIn 39 = .ok (.if_icmp .ge 29, 3) := by decide +kernel
theorem dX8_freeIn_42 : decode cX8_freeIn 42 = .ok (.aload_n 2, 1) := by decide +kernel
theorem dX8_freeIn_43 : decode cX8_freeIn 43 = .ok (.getfield 149, 3) := by decide +kernel
theorem dX8_freeIn_46 : decode cX8_freeIn 46 = .ok (.iconst 2, 1) := by decide +kernel
theorem dX8_freeIn_47 : decode cX8_freeIn 47 = .ok (.if_icmp .ne 21, 3) := by decide +kernel
theorem dX8_freeIn_50 : decode cX8_freeIn 50 = .ok (.aload_n 0, 1) := by decide +kernel
theorem dX8_freeIn_51 : decode cX8_freeIn 51 = .ok (.getfield 16, 3) := by decide +kernel
theorem dX8_freeIn_54 : decode cX8_freeIn 54 = .ok (.aload_n 0, 1) := by decide +kernel
theorem dX8_freeIn_55 : decode cX8_freeIn 55 = .ok (.getfield 32, 3) := by decide +kernel
theorem dX8_freeIn_58 : decode cX8_freeIn 58 = .ok (.invokevirtual 91, 3) := by decide +kernel
theorem dX8_freeIn_61 : decode cX8_freeIn 61 = .ok (.pop, 1) := by decide +kernel
theorem dX8_freeIn_62 : decode cX8_freeIn 62 = .ok (.iinc 3 1, 3) := by decide +kernel
theorem dX8_freeIn_65 : decode cX8_freeIn 65 = .ok (.goto (-30), 3) := by decide +kernel
theorem dX8_freeIn_68 : decode cX8_freeIn 68 = .ok (.aload_n 2, 1) := by decide +kernel
theorem dX8_freeIn_69 : decode cX8_freeIn 69 = .ok (.getfield 149, 3) := by decide +kernel
theorem dX8_freeIn_72 : decode cX8_freeIn 72 = .ok (.iconst 2, 1) := by decide +kernel
theorem dX8_freeIn_73 : decode cX8_freeIn 73 = .ok (.if_icmp .ne 8, 3) := by decide +kernel
theorem dX8_freeIn_76 : decode cX8_freeIn 76 = .ok (.bipush (-5), 2) := by decide +kernel
theorem dX8_freeIn_78 : decode cX8_freeIn 78 = .ok (.goto 4, 3) := by decide +kernel
theorem dX8_freeIn_81 : decode cX8_freeIn 81 = .ok (.iload_n 3, 1) := by decide +kernel
theorem dX8_freeIn_82 : decode cX8_freeIn 82 = .ok (.ireturn, 1) := by decide +kernel
theorem dX8_count_0 : decode cX8_count 0 = .ok (.iload_n 1, 1) := by decide +kernel
theorem dX8_count_1 : decode cX8_count 1 = .ok (.lookupswitch 43 #[(13, 27), (14, 35)], 27) := by decide +kernel
theorem dX8_count_28 : decode cX8_count 28 = .ok (.aload_n 0, 1) := by decide +kernel
theorem dX8_count_29 : decode cX8_count 29 = .ok (.getfield 25, 3) := by decide +kernel
theorem dX8_count_32 : decode cX8_count 32 = .ok (.getfield 190, 3) := by decide +kernel
theorem dX8_count_35 : decode cX8_count 35 = .ok (.ireturn, 1) := by decide +kernel
theorem dX8_count_36 : decode cX8_count 36 = .ok (.aload_n 0, 1) := by decide +kernel
theorem dX8_count_37 : decode cX8_count 37 = .ok (.getfield 39, 3) := by decide +kernel
theorem dX8_count_40 : decode cX8_count 40 = .ok (.getfield 99, 3) := by decide +kernel
theorem dX8_count_43 : decode cX8_count 43 = .ok (.ireturn, 1) := by decide +kernel
theorem dX8_count_44 : decode cX8_count 44 = .ok (.aload_n 0, 1) := by decide +kernel
theorem dX8_count_45 : decode cX8_count 45 = .ok (.getfield 10, 3) := by decide +kernel
theorem dX8_count_48 : decode cX8_count 48 = .ok (.iload_n 1, 1) := by decide +kernel
theorem dX8_count_49 : decode cX8_count 49 = .ok (.invokevirtual 239, 3) := by decide +kernel
theorem dX8_count_52 : decode cX8_count 52 = .ok (.ireturn, 1) := by decide +kernel
theorem dX8_isWithin_0 : decode cX8_isWithin 0 = .ok (.iload_n 1, 1) := by decide +kernel
theorem dX8_isWithin_1 : decode cX8_isWithin 1 = .ok (.iload_n 0, 1) := by decide +kernel
theorem dX8_isWithin_2 : decode cX8_isWithin 2 = .ok (.if_icmp .gt 12, 3) := by decide +kernel
theorem dX8_isWithin_5 : decode cX8_isWithin 5 = .ok (.iload_n 0, 1) := by decide +kernel
theorem dX8_isWithin_6 : decode cX8_isWithin 6 = .ok (.iload_n 2, 1) := by decide +kernel
theorem dX8_isWithin_7 : decode cX8_isWithin 7 = .ok (.if_icmp .gt 7, 3) := by decide +kernel
theorem dX8_isWithin_10 : decode cX8_isWithin 10 = .ok (.iconst 1, 1) := by decide +kernel
theorem dX8_isWithin_11 : decode cX8_isWithin 11 = .ok (.goto 4, 3) := by decide +kernel
theorem dX8_isWithin_14 : decode cX8_isWithin 14 = .ok (.iconst 0, 1) := by decide +kernel
theorem dX8_isWithin_15 : decode cX8_isWithin 15 = .ok (.ireturn, 1) := by decide +kernel
theorem dX9_init_0 : decode cX9_init 0 = .ok (.aload_n 0, 1) := by decide +kernel
theorem dX9_init_1 : decode cX9_init 1 = .ok (.invokespecial 1, 3) := by decide +kernel
theorem dX9_init_4 : decode cX9_init 4 = .ok (.aload_n 0, 1) := by decide +kernel
theorem dX9_init_5 : decode cX9_init 5 = .ok (.sipush 401, 3) := by decide +kernel
theorem dX9_init_8 : decode cX9_init 8 = .ok (.newarray .int, 2) := by decide +kernel
theorem dX9_init_10 : decode cX9_init 10 = .ok (.putfield 7, 3) := by decide +kernel
theorem dX9_init_13 : decode cX9_init 13 = .ok (.aload_n 0, 1) := by decide +kernel
theorem dX9_init_14 : decode cX9_init 14 = .ok (.sipush 401, 3) := by decide +kernel
theorem dX9_init_17 : decode cX9_init 17 = .ok (.newarray .int, 2) := by decide +kernel
theorem dX9_init_19 : decode cX9_init 19 = .ok (.putfield 13, 3) := by decide +kernel
theorem dX9_init_22 : decode cX9_init 22 = .ok (.aload_n 0, 1) := by decide +kernel
theorem dX9_init_23 : decode cX9_init 23 = .ok (.sipush 401, 3) := by decide +kernel
theorem dX9_init_26 : decode cX9_init 26 = .ok (.newarray .int, 2) := by decide +kernel
theorem dX9_init_28 : decode cX9_init 28 = .ok (.putfield 16, 3) := by decide +kernel
theorem dX9_init_31 : decode cX9_init 31 = .ok (.aload_n 0, 1) := by decide +kernel
theorem dX9_init_32 : decode cX9_init 32 = .ok (.sipush 1604, 3) := by decide +kernel
theorem dX9_init_35 : decode cX9_init 35 = .ok (.newarray .int, 2) := by decide +kernel
theorem dX9_init_37 : decode cX9_init 37 = .ok (.putfield 19, 3) := by decide +kernel
theorem dX9_init_40 : decode cX9_init 40 = .ok (.aload_n 0, 1) := by decide +kernel
theorem dX9_init_41 : decode cX9_init 41 = .ok (.bipush 60, 2) := by decide +kernel
theorem dX9_init_43 : decode cX9_init 43 = .ok (.newarray .int, 2) := by decide +kernel
theorem dX9_init_45 : decode cX9_init 45 = .ok (.putfield 22, 3) := by decide +kernel
theorem dX9_init_48 : decode cX9_init 48 = .ok (.aload_n 0, 1) := by decide +kernel
theorem dX9_init_49 : decode cX9_init 49 = .ok (.bipush 8, 2) := by decide +kernel
theorem dX9_init_51 : decode cX9_init 51 = .ok (.newarray .int, 2) := by decide +kernel
theorem dX9_init_53 : decode cX9_init 53 = .ok (.putfield 25, 3) := by decide +kernel
theorem dX9_init_56 : decode cX9_init 56 = .ok (.aload_n 0, 1) := by decide +kernel
theorem dX9_init_57 : decode cX9_init 57 = .ok (.bipush 8, 2) := by decide +kernel
theorem dX9_init_59 : decode cX9_init 59 = .ok (.newarray .int, 2) := by decide +kernel
theorem dX9_init_61 : decode cX9_init 61 = .ok (.putfield 28, 3) := by decide +kernel
theorem dX9_init_64 : decode cX9_init 64 = .ok (.aload_n 0, 1) := by decide +kernel
theorem dX9_init_65 : decode cX9_init 65 = .ok (.bipush 30, 2) := by decide +kernel
theorem dX9_init_67 : decode cX9_init 67 = .ok (.newarray .int, 2) := by decide +kernel
theorem dX9_init_69 : decode cX9_init 69 = .ok (.putfield 31, 3) := by decide +kernel
theorem dX9_init_72 : decode cX9_init 72 = .ok (.aload_n 0, 1) := by decide +kernel
theorem dX9_init_73 : decode cX9_init 73 = .ok (.bipush 30, 2) := by decide +kernel
theorem dX9_init_75 : decode cX9_init 75 = .ok (.newarray .int, 2) := by decide +kernel
theorem dX9_init_77 : decode cX9_init 77 = .ok (.putfield 34, 3) := by decide +kernel
theorem dX9_init_80 : decode cX9_init 80 = .ok (.aload_n 0, 1) := by decide +kernel
theorem dX9_init_81 : decode cX9_init 81 = .ok (.getfield 7, 3) := by decide +kernel
theorem dX9_init_84 : decode cX9_init 84 = .ok (.iconst 1, 1) := by decide +kernel
theorem dX9_init_85 : decode cX9_init 85 = .ok (.iconst 1, 1) := by decide +kernel
theorem dX9_init_86 : decode cX9_init 86 = .ok (.iastore, 1) := by decide +kernel
theorem dX9_init_87 : decode cX9_init 87 = .ok (.aload_n 0, 1) := by decide +kernel
theorem dX9_init_88 : decode cX9_init 88 = .ok (.getfield 7, 3) := by decide +kernel
theorem dX9_init_91 : decode cX9_init 91 = .ok (.iconst 3, 1) := by decide +kernel
theorem dX9_init_92 : decode cX9_init 92 = .ok (.sipush 20000, 3) := by decide +kernel
theorem dX9_init_95 : decode cX9_init 95 = .ok (.iastore, 1) := by decide +kernel
theorem dX9_init_96 : decode cX9_init 96 = .ok (.aload_n 0, 1) := by decide +kernel
theorem dX9_init_97 : decode cX9_init 97 = .ok (.getfield 7, 3) := by decide +kernel
theorem dX9_init_100 : decode cX9_init 100 = .ok (.iconst 4, 1) := by decide +kernel
theorem dX9_init_101 : decode cX9_init 101 = .ok (.sipush 200, 3) := by decide +kernel
theorem dX9_init_104 : decode cX9_init 104 = .ok (.iastore, 1) := by decide +kernel
theorem dX9_init_105 : decode cX9_init 105 = .ok (.aload_n 0, 1) := by decide +kernel
theorem dX9_init_106 : decode cX9_init 106 = .ok (.getfield 7, 3) := by decide +kernel
theorem dX9_init_109 : decode cX9_init 109 = .ok (.iconst 5, 1) := by decide +kernel
theorem dX9_init_110 : decode cX9_init 110 = .ok (.sipush 300, 3) := by decide +kernel
theorem dX9_init_113 : decode cX9_init 113 = .ok (.iastore, 1) := by decide +kernel
theorem dX9_init_114 : decode cX9_init 114 = .ok (.aload_n 0, 1) := by decide +kernel
theorem dX9_init_115 : decode cX9_init 115 = .ok (.getfield 7, 3) := by decide +kernel
theorem dX9_init_118 : decode cX9_init 118 = .ok (.bipush 6, 2) := by decide +kernel
theorem dX9_init_120 : decode cX9_init 120 = .ok (.bipush 40, 2) := by decide +kernel
theorem dX9_init_122 : decode cX9_init 122 = .ok (.iastore, 1) := by decide +kernel
theorem dX9_init_123 : decode cX9_init 123 = .ok (.aload_n 0, 1) := by decide +kernel
theorem dX9_init_124 : decode cX9_init 124 = .ok (.getfield 7, 3) := by decide +kernel
theorem dX9_init_127 : decode cX9_init 127 = .ok (.bipush 7, 2) := by decide +kernel
theorem dX9_init_129 : decode cX9_init 129 = .ok (.sipush 10000, 3) := by decide +kernel
theorem dX9_init_132 : decode cX9_init 132 = .ok (.iastore, 1) := by decide +kernel
theorem dX9_init_133 : decode cX9_init 133 = .ok (.return_, 1) := by decide +kernel
theorem dX9_copy_0 : decode cX9_copy 0 = .ok (.iconst 0, 1) := by decide +kernel
theorem dX9_copy_1 : decode cX9_copy 1 = .ok (.istore 4, 2) := by decide +kernel
theorem dX9_copy_3 : decode cX9_copy 3 = .ok (.iload 4, 2) := by decide +kernel
theorem dX9_copy_5 : decode cX9_copy 5 = .ok (.sipush 401, 3) := by decide +kernel
theorem dX9_copy_8 : decode cX9_copy 8 = .ok (.if_icmp .ge 21, 3) := by decide +kernel
theorem dX9_copy_11 : decode cX9_copy 11 = .ok (.aload_n 2, 1) := by decide +kernel
theorem dX9_copy_12 : decode cX9_copy 12 = .ok (.iload_n 3, 1) := by decide +kernel
theorem dX9_copy_13 : decode cX9_copy 13 = .ok (.iload 4, 2) := by decide +kernel
theorem dX9_copy_15 : decode cX9_copy 15 = .ok (.iadd, 1) := by decide +kernel
theorem dX9_copy_16 : decode cX9_copy 16 = .ok (.aload_n 0, 1) := by decide +kernel
theorem dX9_copy_17 : decode cX9_copy 17 = .ok (.iload_n 1, 1) := by decide +kernel
theorem dX9_copy_18 : decode cX9_copy 18 = .ok (.iload 4, 2) := by decide +kernel
theorem dX9_copy_20 : decode cX9_copy 20 = .ok (.iadd, 1) := by decide +kernel
theorem dX9_copy_21 : decode cX9_copy 21 = .ok (.iaload, 1) := by decide +kernel
theorem dX9_copy_22 : decode cX9_copy 22 = .ok (.iastore, 1) := by decide +kernel
theorem dX9_copy_23 : decode cX9_copy 23 = .ok (.iinc 4 1, 3) := by decide +kernel
theorem dX9_copy_26 : decode cX9_copy 26 = .ok (.goto (-23), 3) := by decide +kernel
theorem dX9_copy_29 : decode cX9_copy 29 = .ok (.return_, 1) := by decide +kernel
theorem dX9_within_0 : decode cX9_within 0 = .ok (.iload_n 0, 1) := by decide +kernel
theorem dX9_within_1 : decode cX9_within 1 = .ok (.iload_n 1, 1) := by decide +kernel
theorem dX9_within_2 : decode cX9_within 2 = .ok (.if_icmp .lt 12, 3) := by decide +kernel
theorem dX9_within_5 : decode cX9_within 5 = .ok (.iload_n 0, 1) := by decide +kernel
theorem dX9_within_6 : decode cX9_within 6 = .ok (.iload_n 2, 1) := by decide +kernel
theorem dX9_within_7 : decode cX9_within 7 = .ok (.if_icmp .gt 7, 3) := by decide +kernel
theorem dX9_within_10 : decode cX9_within 10 = .ok (.iconst 1, 1) := by decide +kernel
theorem dX9_within_11 : decode cX9_within 11 = .ok (.goto 4, 3) := by decide +kernel
theorem dX9_within_14 : decode cX9_within 14 = .ok (.iconst 0, 1) := by decide +kernel
theorem dX9_within_15 : decode cX9_within 15 = .ok (.ireturn, 1) := by decide +kernel
theorem dX9_record_0 : decode cX9_record 0 = .ok (.aload_n 0, 1) := by decide +kernel
theorem dX9_record_1 : decode cX9_record 1 = .ok (.getfield 37, 3) := by decide +kernel
theorem dX9_record_4 : decode cX9_record 4 = .ok (.iconst 4, 1) := by decide +kernel
theorem dX9_record_5 : decode cX9_record 5 = .ok (.if_icmp .ne 44, 3) := by decide +kernel
theorem dX9_record_8 : decode cX9_record 8 = .ok (.iconst 0, 1) := by decide +kernel
theorem dX9_record_9 : decode cX9_record 9 = .ok (.istore_n 1, 1) := by decide +kernel
theorem dX9_record_10 : decode cX9_record 10 = .ok (.iload_n 1, 1) := by decide +kernel
theorem dX9_record_11 : decode cX9_record 11 = .ok (.sipush 1203, 3) := by decide +kernel
theorem dX9_record_14 : decode cX9_record 14 = .ok (.if_icmp .ge 25, 3) := by decide +kernel
theorem dX9_record_17 : decode cX9_record 17 = .ok (.aload_n 0, 1) := by decide +kernel
theorem dX9_record_18 : decode cX9_record 18 = .ok (.getfield 19, 3) := by decide +kernel
theorem dX9_record_21 : decode cX9_record 21 = .ok (.iload_n 1, 1) := by decide +kernel
theorem dX9_record_22 : decode cX9_record 22 = .ok (.aload_n 0, 1) := by decide +kernel
theorem dX9_record_23 : decode cX9_record 23 = .ok (.getfield 19, 3) := by decide +kernel
theorem dX9_record_26 : decode cX9_record 26 = .ok (.iload_n 1, 1) := by decide +kernel
theorem dX9_record_27 : decode cX9_record 27 = .ok (.sipush 401, 3) := by decide +kernel
theorem dX9_record_30 : decode cX9_record 30 = .ok (.iadd, 1) := by decide +kernel
theorem dX9_record_31 : decode cX9_record 31 = .ok (.iaload, 1) := by decide +kernel
theorem dX9_record_32 : decode cX9_record 32 = .ok (.iastore, 1) := by decide +kernel
theorem dX9_record_33 : decode cX9_record 33 = .ok (.iinc 1 1, 3) := by decide +kernel
theorem dX9_record_36 : decode cX9_record 36 = .ok (.goto (-26), 3) := by decide +kernel
theorem dX9_record_39 : decode cX9_record 39 = .ok (.aload_n 0, 1) := by decide +kernel
theorem dX9_record_40 : decode cX9_record 40 = .ok (.dup, 1) := by decide +kernel
theorem dX9_record_41 : decode cX9_record 41 = .ok (.getfield 37, 3) := by decide +kernel
theorem dX9_record_44 : decode cX9_record 44 = .ok (.iconst 1, 1) := by decide +kernel
theorem dX9_record_45 : decode cX9_record 45 = .ok (.isub, 1) := by decide +kernel
theorem dX9_record_46 : decode cX9_record 46 = .ok (.putfield 37, 3) := by decide +kernel
theorem dX9_record_49 : decode cX9_record 49 = .ok (.aload_n 0, 1) := by decide +kernel
theorem dX9_record_50 : decode cX9_record 50 = .ok (.getfield 7, 3) := by decide +kernel
theorem dX9_record_53 : decode cX9_record 53 = .ok (.iconst 0, 1) := by decide +kernel
theorem dX9_record_54 : decode cX9_record 54 = .ok (.aload_n 0, 1) := by decide +kernel
theorem dX9_record_55 : decode cX9_record 55 = .ok (.getfield 19, 3) := by decide +kernel
theorem dX9_record_58 : decode cX9_record 58 = .ok (.aload_n 0, 1) := by decide +kernel
theorem dX9_record_59 : decode cX9_record 59 = .ok (.getfield 37, 3) := by decide +kernel
theorem dX9_record_62 : decode cX9_record 62 = .ok (.sipush 401, 3) := by decide +kernel
theorem dX9_record_65 : decode cX9_record 65 = .ok (.imul, 1) := by decide +kernel
theorem dX9_record_66 : decode cX9_record 66 = .ok (.invokestatic 41, 3) := by decide +kernel
theorem dX9_record_69 : decode cX9_record 69 = .ok (.aload_n 0, 1) := by decide +kernel
theorem dX9_record_70 : decode cX9_record 70 = .ok (.dup, 1) := by decide +kernel
theorem dX9_record_71 : decode cX9_record 71 = .ok (.getfield 37, 3) := by decide +kernel
theorem dX9_record_74 : decode cX9_record 74 = .ok (.iconst 1, 1) := by decide +kernel
theorem dX9_record_75 : decode cX9_record 75 = .ok (.iadd, 1) := by decide +kernel
theorem dX9_record_76 : decode cX9_record 76 = .ok (.putfield 37, 3) := by decide +kernel
theorem dX9_record_79 : decode cX9_record 79 = .ok (.return_, 1) := by decide +kernel
theorem dX9_isHouse_0 : decode cX9_isHouse 0 = .ok (.iload_n 1, 1) := by decide +kernel
theorem dX9_isHouse_1 : decode cX9_isHouse 1 = .ok (.iconst 0, 1) := by decide +kernel
theorem dX9_isHouse_2 : decode cX9_isHouse 2 = .ok (.aload_n 0, 1) := by decide +kernel
theorem dX9_isHouse_3 : decode cX9_isHouse 3 = .ok (.getfield 7, 3) := by decide +kernel
theorem dX9_isHouse_6 : decode cX9_isHouse 6 = .ok (.iconst 2, 1) := by decide +kernel
theorem dX9_isHouse_7 : decode cX9_isHouse 7 = .ok (.iaload, 1) := by decide +kernel
theorem dX9_isHouse_8 : decode cX9_isHouse 8 = .ok (.iconst 1, 1) := by decide +kernel
theorem dX9_isHouse_9 : decode cX9_isHouse 9 = .ok (.isub, 1) := by decide +kernel
theorem dX9_isHouse_10 : decode cX9_isHouse 10 = .ok (.invokestatic 45, 3) := by decide +kernel
theorem dX9_isHouse_13 : decode cX9_isHouse 13 = .ok (.ireturn, 1) := by decide +kernel
theorem dX9_part_0 : decode cX9_part 0 = .ok (.aload_n 0, 1) := by decide +kernel
theorem dX9_part_1 : decode cX9_part 1 = .ok (.getfield 7, 3) := by decide +kernel
theorem dX9_part_4 : decode cX9_part 4 = .ok (.bipush 15, 2) := by decide +kernel
theorem dX9_part_6 : decode cX9_part 6 = .ok (.bipush 42, 2) := by decide +kernel
theorem dX9_part_8 : decode cX9_part 8 = .ok (.iload_n 1, 1) := by decide +kernel
theorem dX9_part_9 : decode cX9_part 9 = .ok (.imul, 1) := by decide +kernel
theorem dX9_part_10 : decode cX9_part 10 = .ok (.iadd, 1) := by decide +kernel
theorem dX9_part_11 : decode cX9_part 11 = .ok (.iload_n 2, 1) := by decide +kernel
theorem dX9_part_12 : decode cX9_part 12 = .ok (.iadd, 1) := by decide +kernel
theorem dX9_part_13 : decode cX9_part 13 = .ok (.iaload, 1) := by decide +kernel
theorem dX9_part_14 : decode cX9_part 14 = .ok (.ireturn, 1) := by decide +kernel
theorem dX9_setPart_0 : decode cX9_setPart 0 = .ok (.aload_n 0, 1) := by decide +kernel
theorem dX9_setPart_1 : decode cX9_setPart 1 = .ok (.getfield 7, 3) := by decide +kernel
theorem dX9_setPart_4 : decode cX9_setPart 4 = .ok (.bipush 15, 2) := by decide +kernel
theorem dX9_setPart_6 : decode cX9_setPart 6 = .ok (.bipush 42, 2) := by decide +kernel
theorem dX9_setPart_8 : decode cX9_setPart 8 = .ok (.iload_n 1, 1) := by decide +kernel
theorem dX9_setPart_9 : decode cX9_setPart 9 = .ok (.imul, 1) := by decide +kernel
theorem dX9_setPart_10 : decode cX9_setPart 10 = .ok (.iadd, 1) := by decide +kernel
theorem dX9_setPart_11 : decode cX9_setPart 11 = .ok (.iload_n 2, 1) := by decide +kernel
theorem dX9_setPart_12 : decode cX9_setPart 12 = .ok (.iadd, 1) := by decide +kernel
theorem dX9_setPart_13 : decode cX9_setPart 13 = .ok (.iload_n 3, 1) := by decide +kernel
theorem dX9_setPart_14 : decode cX9_setPart 14 = .ok (.iastore, 1) := by decide +kernel
theorem dX9_setPart_15 : decode cX9_setPart 15 = .ok (.return_, 1) := by decide +kernel
theorem dX9_addPart_0 : decode cX9_addPart 0 = .ok (.aload_n 0, 1) := by decide +kernel
theorem dX9_addPart_1 : decode cX9_addPart 1 = .ok (.getfield 7, 3) := by decide +kernel
theorem dX9_addPart_4 : decode cX9_addPart 4 = .ok (.bipush 15, 2) := by decide +kernel
theorem dX9_addPart_6 : decode cX9_addPart 6 = .ok (.bipush 42, 2) := by decide +kernel
theorem dX9_addPart_8 : decode cX9_addPart 8 = .ok (.iload_n 1, 1) := by decide +kernel
theorem dX9_addPart_9 : decode cX9_addPart 9 = .ok (.imul, 1) := by decide +kernel
theorem dX9_addPart_10 : decode cX9_addPart 10 = .ok (.iadd, 1) := by decide +kernel
theorem dX9_addPart_11 : decode cX9_addPart 11 = .ok (.iload_n 2, 1) := by decide +kernel
theorem dX9_addPart_12 : decode cX9_addPart 12 = .ok (.iadd, 1) := by decide +kernel
theorem dX9_addPart_13 : decode cX9_addPart 13 = .ok (.dup2, 1) := by decide +kernel
theorem dX9_addPart_14 : decode cX9_addPart 14 = .ok (.iaload, 1) := by decide +kernel
theorem dX9_addPart_15 : decode cX9_addPart 15 = .ok (.iload_n 3, 1) := by decide +kernel
theorem dX9_addPart_16 : decode cX9_addPart 16 = .ok (.iadd, 1) := by decide +kernel
theorem dX9_addPart_17 : decode cX9_addPart 17 = .ok (.iastore, 1) := by decide +kernel
theorem dX9_addPart_18 : decode cX9_addPart 18 = .ok (.return_, 1) := by decide +kernel
theorem dX9_leasePart_0 : decode cX9_leasePart 0 = .ok (.aload_n 0, 1) := by decide +kernel
theorem dX9_leasePart_1 : decode cX9_leasePart 1 = .ok (.getfield 7, 3) := by decide +kernel
theorem dX9_leasePart_4 : decode cX9_leasePart 4 = .ok (.sipush 351, 3) := by decide +kernel
theorem dX9_leasePart_7 : decode cX9_leasePart 7 = .ok (.iconst 5, 1) := by decide +kernel
theorem dX9_leasePart_8 : decode cX9_leasePart 8 = .ok (.iload_n 1, 1) := by decide +kernel
theorem dX9_leasePart_9 : decode cX9_leasePart 9 = .ok (.imul, 1) := by decide +kernel
theorem dX9_leasePart_10 : decode cX9_leasePart 10 = .ok (.iadd, 1) := by decide +kernel
theorem dX9_leasePart_11 : decode cX9_leasePart 11 = .ok (.iload_n 2, 1) := by decide +kernel
theorem dX9_leasePart_12 : decode cX9_leasePart 12 = .ok (.iadd, 1) := by decide +kernel
theorem dX9_leasePart_13 : decode cX9_leasePart 13 = .ok (.iaload, 1) := by decide +kernel
theorem dX9_leasePart_14 : decode cX9_leasePart 14 = .ok (.ireturn, 1) := by decide +kernel
theorem dX9_temperature_0 : decode cX9_temperature 0 = .ok (.aload_n 0, 1) := by decide +kernel
theorem dX9_temperature_1 : decode cX9_temperature 1 = .ok (.iload_n 1, 1) := by decide +kernel
theorem dX9_temperature_2 : decode cX9_temperature 2 = .ok (.bipush 11, 2) := by decide +kernel
theorem dX9_temperature_4 : decode cX9_temperature 4 = .ok (.invokevirtual 49, 3) := by decide +kernel
theorem dX9_temperature_7 : decode cX9_temperature 7 = .ok (.ifCond .ne 8, 3) := by decide +kernel
theorem dX9_temperature_10 : decode cX9_temperature 10 = .ok (.bipush 15, 2) := by decide +kernel
theorem dX9_temperature_12 : decode cX9_temperature 12 = .ok (.goto 20, 3) := by decide +kernel
theorem dX9_temperature_15 : decode cX9_temperature 15 = .ok (.aload_n 0, 1) := by decide +kernel
theorem dX9_temperature_16 : decode cX9_temperature 16 = .ok (.iload_n 1, 1) := by decide +kernel
theorem dX9_temperature_17 : decode cX9_temperature 17 = .ok (.bipush 12, 2) := by decide +kernel
theorem dX9_temperature_19 : decode cX9_temperature 19 = .ok (.invokevirtual 49, 3) := by decide +kernel
theorem dX9_temperature_22 : decode cX9_temperature 22 = .ok (.iconst 4, 1) := by decide +kernel
theorem dX9_temperature_23 : decode cX9_temperature 23 = .ok (.aload_n 0, 1) := by decide +kernel
theorem dX9_temperature_24 : decode cX9_temperature 24 = .ok (.iload_n 1, 1) := by decide +kernel
theorem dX9_temperature_25 : decode cX9_temperature 25 = .ok (.bipush 11, 2) := by decide +kernel
theorem dX9_temperature_27 : decode cX9_temperature 27 = .ok (.invokevirtual 49, 3) := by decide +kernel
theorem dX9_temperature_30 : decode cX9_temperature 30 = .ok (.imul, 1) := by decide +kernel
theorem dX9_temperature_31 : decode cX9_temperature 31 = .ok (.idiv, 1) := by decide +kernel
theorem dX9_temperature_32 : decode cX9_temperature 32 = .ok (.ireturn, 1) := by decide +kernel
theorem dX9_lent_0 : decode cX9_lent 0 = .ok (.iconst 0, 1) := by decide +kernel
theorem dX9_lent_1 : decode cX9_lent 1 = .ok (.istore_n 2, 1) := by decide +kernel
theorem dX9_lent_2 : decode cX9_lent 2 = .ok (.iconst 0, 1) := by decide +kernel
theorem dX9_lent_3 : decode cX9_lent 3 = .ok (.istore_n 3, 1) := by decide +kernel
theorem dX9_lent_4 : decode cX9_lent 4 = .ok (.iload_n 3, 1) := by decide +kernel
theorem dX9_lent_5 : decode cX9_lent 5 = .ok (.aload_n 0, 1) := by decide +kernel
theorem dX9_lent_6 : decode cX9_lent 6 = .ok (.getfield 7, 3) := by decide +kernel
theorem dX9_lent_9 : decode cX9_lent 9 = .ok (.bipush 8, 2) := by decide +kernel
theorem dX9_lent_11 : decode cX9_lent 11 = .ok (.iaload, 1) := by decide +kernel
theorem dX9_lent_12 : decode cX9_lent 12 = .ok (.if_icmp .ge 32, 3) := by decide +kernel
theorem dX9_lent_15 : decode cX9_lent 15 = .ok (.iload_n 2, 1) := by decide +kernel
theorem dX9_lent_16 : decode cX9_lent 16 = .ok (.aload_n 0, 1) := by decide +kernel
theorem dX9_lent_17 : decode cX9_lent 17 = .ok (.iload_n 3, 1) := by decide +kernel
theorem dX9_lent_18 : decode cX9_lent 18 = .ok (.iconst 0, 1) := by decide +kernel
theorem dX9_lent_19 : decode cX9_lent 19 = .ok (.invokevirtual 53, 3) := by decide +kernel
theorem dX9_lent_22 : decode cX9_lent 22 = .ok (.iload_n 1, 1) := by decide +kernel
theorem dX9_lent_23 : decode cX9_lent 23 = .ok (.if_icmp .ne 12, 3) := by decide +kernel
theorem dX9_lent_26 : decode cX9_lent 26 = .ok (.aload_n 0, 1) := by decide +kernel
theorem dX9_lent_27 : decode cX9_lent 27 = .ok (.iload_n 3, 1) := by decide +kernel
theorem dX9_lent_28 : decode cX9_lent 28 = .ok (.iconst 2, 1) := by decide +kernel
theorem dX9_lent_29 : decode cX9_lent 29 = .ok (.invokevirtual 53, 3) := by decide +kernel
theorem dX9_lent_32 : decode cX9_lent 32 = .ok (.goto 4, 3) := by decide +kernel
theorem dX9_lent_35 : decode cX9_lent 35 = .ok (.iconst 0, 1) := by decide +kernel
theorem dX9_lent_36 : decode cX9_lent 36 = .ok (.iadd, 1) := by decide +kernel
theorem dX9_lent_37 : decode cX9_lent 37 = .ok (.istore_n 2, 1) := by decide +kernel
theorem dX9_lent_38 : decode cX9_lent 38 = .ok (.iinc 3 1, 3) := by decide +kernel
theorem dX9_lent_41 : decode cX9_lent 41 = .ok (.goto (-37), 3) := by decide +kernel
theorem dX9_lent_44 : decode cX9_lent 44 = .ok (.iload_n 2, 1) := by decide +kernel
theorem dX9_lent_45 : decode cX9_lent 45 = .ok (.ireturn, 1) := by decide +kernel
theorem dX9_sharesOf_0 : decode cX9_sharesOf 0 = .ok (.aload_n 0, 1) := by decide +kernel
theorem dX9_sharesOf_1 : decode cX9_sharesOf 1 = .ok (.iload_n 1, 1) := by decide +kernel
theorem dX9_sharesOf_2 : decode cX9_sharesOf 2 = .ok (.iconst 0, 1) := by decide +kernel
theorem dX9_sharesOf_3 : decode cX9_sharesOf 3 = .ok (.invokevirtual 49, 3) := by decide +kernel
theorem dX9_sharesOf_6 : decode cX9_sharesOf 6 = .ok (.aload_n 0, 1) := by decide +kernel
theorem dX9_sharesOf_7 : decode cX9_sharesOf 7 = .ok (.iload_n 1, 1) := by decide +kernel
theorem dX9_sharesOf_8 : decode cX9_sharesOf 8 = .ok (.invokevirtual 56, 3) := by decide +kernel
theorem dX9_sharesOf_11 : decode cX9_sharesOf 11 = .ok (.isub, 1) := by decide +kernel
theorem dX9_sharesOf_12 : decode cX9_sharesOf 12 = .ok (.istore_n 2, 1) := by decide +kernel
theorem dX9_sharesOf_13 : decode cX9_sharesOf 13 = .ok (.iconst 0, 1) := by decide +kernel
theorem dX9_sharesOf_14 : decode cX9_sharesOf 14 = .ok (.istore_n 3, 1) := by decide +kernel
theorem dX9_sharesOf_15 : decode cX9_sharesOf 15 = .ok (.iload_n 3, 1) := by decide +kernel
theorem dX9_sharesOf_16 : decode cX9_sharesOf 16 = .ok (.aload_n 0, 1) := by decide +kernel
theorem dX9_sharesOf_17 : decode cX9_sharesOf 17 = .ok (.getfield 7, 3) := by decide +kernel
theorem dX9_sharesOf_20 : decode cX9_sharesOf 20 = .ok (.bipush 8, 2) := by decide +kernel
theorem dX9_sharesOf_22 : decode cX9_sharesOf 22 = .ok (.iaload, 1) := by decide +kernel
theorem dX9_sharesOf_23 : decode cX9_sharesOf 23 = .ok (.if_icmp .ge 32, 3) := by decide +kernel
theorem dX9_sharesOf_26 : decode cX9_sharesOf 26 = .ok (.iload_n 2, 1) := by decide +kernel
theorem dX9_sharesOf_27 : decode cX9_sharesOf 27 = .ok (.aload_n 0, 1) := by decide +kernel
theorem dX9_sharesOf_28 : decode cX9_sharesOf 28 = .ok (.iload_n 3, 1) := by decide +kernel
theorem dX9_sharesOf_29 : decode cX9_sharesOf 29 = .ok (.iconst 1, 1) := by decide +kernel
theorem dX9_sharesOf_30 : decode cX9_sharesOf 30 = .ok (.invokevirtual 53, 3) := by decide +kernel
theorem dX9_sharesOf_33 : decode cX9_sharesOf 33 = .ok (.iload_n 1, 1) := by decide +kernel
theorem dX9_sharesOf_34 : decode cX9_sharesOf 34 = .ok (.if_icmp .ne 12, 3) := by decide +kernel
theorem dX9_sharesOf_37 : decode cX9_sharesOf 37 = .ok (.aload_n 0, 1) := by decide +kernel
theorem dX9_sharesOf_38 : decode cX9_sharesOf 38 = .ok (.iload_n 3, 1) := by decide +kernel
theorem dX9_sharesOf_39 : decode cX9_sharesOf 39 = .ok (.iconst 2, 1) := by decide +kernel
theorem dX9_sharesOf_40 : decode cX9_sharesOf 40 = .ok (.invokevirtual 53, 3) := by decide +kernel
theorem dX9_sharesOf_43 : decode cX9_sharesOf 43 = .ok (.goto 4, 3) := by decide +kernel
theorem dX9_sharesOf_46 : decode cX9_sharesOf 46 = .ok (.iconst 0, 1) := by decide +kernel
theorem dX9_sharesOf_47 : decode cX9_sharesOf 47 = .ok (.iadd, 1) := by decide +kernel
theorem dX9_sharesOf_48 : decode cX9_sharesOf 48 = .ok (.istore_n 2, 1) := by decide +kernel
theorem dX9_sharesOf_49 : decode cX9_sharesOf 49 = .ok (.iinc 3 1, 3) := by decide +kernel
theorem dX9_sharesOf_52 : decode cX9_sharesOf 52 = .ok (.goto (-37), 3) := by decide +kernel
theorem dX9_sharesOf_55 : decode cX9_sharesOf 55 = .ok (.iload_n 2, 1) := by decide +kernel
theorem dX9_sharesOf_56 : decode cX9_sharesOf 56 = .ok (.ireturn, 1) := by decide +kernel
theorem dX9_runs_0 : decode cX9_runs 0 = .ok (.aload_n 0, 1) := by decide +kernel
theorem dX9_runs_1 : decode cX9_runs 1 = .ok (.iload_n 1, 1) := by decide +kernel
theorem dX9_runs_2 : decode cX9_runs 2 = .ok (.bipush 9, 2) := by decide +kernel
theorem dX9_runs_4 : decode cX9_runs 4 = .ok (.invokevirtual 49, 3) := by decide +kernel
theorem dX9_runs_7 : decode cX9_runs 7 = .ok (.iconst 1, 1) := by decide +kernel
theorem dX9_runs_8 : decode cX9_runs 8 = .ok (.if_icmp .ne 7, 3) := by decide +kernel
theorem dX9_runs_11 : decode cX9_runs 11 = .ok (.iconst 1, 1) := by decide +kernel
theorem dX9_runs_12 : decode cX9_runs 12 = .ok (.goto 4, 3) := by decide +kernel
theorem dX9_runs_15 : decode cX9_runs 15 = .ok (.iconst 0, 1) := by decide +kernel
theorem dX9_runs_16 : decode cX9_runs 16 = .ok (.ireturn, 1) := by decide +kernel
theorem dX9_kindOf_0 : decode cX9_kindOf 0 = .ok (.aload_n 0, 1) := by decide +kernel
theorem dX9_kindOf_1 : decode cX9_kindOf 1 = .ok (.iload_n 1, 1) := by decide +kernel
theorem dX9_kindOf_2 : decode cX9_kindOf 2 = .ok (.bipush 18, 2) := by decide +kernel
theorem dX9_kindOf_4 : decode cX9_kindOf 4 = .ok (.aload_n 0, 1) := by decide +kernel
theorem dX9_kindOf_5 : decode cX9_kindOf 5 = .ok (.iload_n 1, 1) := by decide +kernel
theorem dX9_kindOf_6 : decode cX9_kindOf 6 = .ok (.bipush 10, 2) := by decide +kernel
theorem dX9_kindOf_8 : decode cX9_kindOf 8 = .ok (.invokevirtual 49, 3) := by decide +kernel
theorem dX9_kindOf_11 : decode cX9_kindOf 11 = .ok (.iadd, 1) := by decide +kernel
theorem dX9_kindOf_12 : decode cX9_kindOf 12 = .ok (.invokevirtual 49, 3) := by decide +kernel
theorem dX9_kindOf_15 : decode cX9_kindOf 15 = .ok (.ireturn, 1) := by decide +kernel
theorem dX9_numberOf_0 : decode cX9_numberOf 0 = .ok (.aload_n 0, 1) := by decide +kernel
theorem dX9_numberOf_1 : decode cX9_numberOf 1 = .ok (.iload_n 1, 1) := by decide +kernel
theorem dX9_numberOf_2 : decode cX9_numberOf 2 = .ok (.bipush 30, 2) := by decide +kernel
theorem dX9_numberOf_4 : decode cX9_numberOf 4 = .ok (.aload_n 0, 1) := by decide +kernel
theorem dX9_numberOf_5 : decode cX9_numberOf 5 = .ok (.iload_n 1, 1) := by decide +kernel
theorem dX9_numberOf_6 : decode cX9_numberOf 6 = .ok (.bipush 10, 2) := by decide +kernel
theorem dX9_numberOf_8 : decode cX9_numberOf 8 = .ok (.invokevirtual 49, 3) := by decide +kernel
theorem dX9_numberOf_11 : decode cX9_numberOf 11 = .ok (.iadd, 1) := by decide +kernel
theorem dX9_numberOf_12 : decode cX9_numberOf 12 = .ok (.invokevirtual 49, 3) := by decide +kernel
theorem dX9_numberOf_15 : decode cX9_numberOf 15 = .ok (.ireturn, 1) := by decide +kernel
theorem dX9_washersIn_0 : decode cX9_washersIn 0 = .ok (.iconst 0, 1) := by decide +kernel
theorem dX9_washersIn_1 : decode cX9_washersIn 1 = .ok (.istore_n 2, 1) := by decide +kernel
theorem dX9_washersIn_2 : decode cX9_washersIn 2 = .ok (.iconst 0, 1) := by decide +kernel
theorem dX9_washersIn_3 : decode cX9_washersIn 3 = .ok (.istore_n 3, 1) := by decide +kernel
theorem dX9_washersIn_4 : decode cX9_washersIn 4 = .ok (.iload_n 3, 1) := by decide +kernel
theorem dX9_washersIn_5 : decode cX9_washersIn 5 = .ok (.aload_n 0, 1) := by decide +kernel
theorem dX9_washersIn_6 : decode cX9_washersIn 6 = .ok (.getfield 7, 3) := by decide +kernel
theorem dX9_washersIn_9 : decode cX9_washersIn 9 = .ok (.iconst 2, 1) := by decide +kernel
theorem dX9_washersIn_10 : decode cX9_washersIn 10 = .ok (.iaload, 1) := by decide +kernel
theorem dX9_washersIn_11 : decode cX9_washersIn 11 = .ok (.if_icmp .ge 28, 3) := by decide +kernel
theorem dX9_washersIn_14 : decode cX9_washersIn 14 = .ok (.iload_n 2, 1) := by decide +kernel
theorem dX9_washersIn_15 : decode cX9_washersIn 15 = .ok (.aload_n 0, 1) := by decide +kernel
theorem dX9_washersIn_16 : decode cX9_washersIn 16 = .ok (.iload_n 3, 1) := by decide +kernel
theorem dX9_washersIn_17 : decode cX9_washersIn 17 = .ok (.bipush 9, 2) := by decide +kernel
theorem dX9_washersIn_19 : decode cX9_washersIn 19 = .ok (.invokevirtual 49, 3) := by decide +kernel
theorem dX9_washersIn_22 : decode cX9_washersIn 22 = .ok (.iload_n 1, 1) := by decide +kernel
theorem dX9_washersIn_23 : decode cX9_washersIn 23 = .ok (.if_icmp .ne 7, 3) := by decide +kernel
theorem dX9_washersIn_26 : decode cX9_washersIn 26 = .ok (.iconst 1, 1) := by decide +kernel
theorem dX9_washersIn_27 : decode cX9_washersIn 27 = .ok (.goto 4, 3) := by decide +kernel
theorem dX9_washersIn_30 : decode cX9_washersIn 30 = .ok (.iconst 0, 1) := by decide +kernel
theorem dX9_washersIn_31 : decode cX9_washersIn 31 = .ok (.iadd, 1) := by decide +kernel
theorem dX9_washersIn_32 : decode cX9_washersIn 32 = .ok (.istore_n 2, 1) := by decide +kernel
theorem dX9_washersIn_33 : decode cX9_washersIn 33 = .ok (.iinc 3 1, 3) := by decide +kernel
theorem dX9_washersIn_36 : decode cX9_washersIn 36 = .ok (.goto (-32), 3) := by decide +kernel
theorem dX9_washersIn_39 : decode cX9_washersIn 39 = .ok (.iload_n 2, 1) := by decide +kernel
theorem dX9_washersIn_40 : decode cX9_washersIn 40 = .ok (.ireturn, 1) := by decide +kernel
theorem dX9_addHouse_0 : decode cX9_addHouse 0 = .ok (.iload_n 1, 1) := by decide +kernel
theorem dX9_addHouse_1 : decode cX9_addHouse 1 = .ok (.iconst 1, 1) := by decide +kernel
theorem dX9_addHouse_2 : decode cX9_addHouse 2 = .ok (.bipush 20, 2) := by decide +kernel
theorem dX9_addHouse_4 : decode cX9_addHouse 4 = .ok (.invokestatic 45, 3) := by decide +kernel
theorem dX9_addHouse_7 : decode cX9_addHouse 7 = .ok (.ifCond .eq 24, 3) := by decide +kernel
theorem dX9_addHouse_10 : decode cX9_addHouse 10 = .ok (.iload_n 2, 1) := by decide +kernel
theorem dX9_addHouse_11 : decode cX9_addHouse 11 = .ok (.iconst 1, 1) := by decide +kernel
theorem dX9_addHouse_12 : decode cX9_addHouse 12 = .ok (.bipush 50, 2) := by decide +kernel
theorem dX9_addHouse_14 : decode cX9_addHouse 14 = .ok (.invokestatic 45, 3) := by decide +kernel
theorem dX9_addHouse_17 : decode cX9_addHouse 17 = .ok (.ifCond .eq 14, 3) := by decide +kernel
theorem dX9_addHouse_20 : decode cX9_addHouse 20 = .ok (.iload_n 3, 1) := by decide +kernel
theorem dX9_addHouse_21 : decode cX9_addHouse 21 = .ok (.iconst 0, 1) := by decide +kernel
theorem dX9_addHouse_22 : decode cX9_addHouse 22 = .ok (.sipush 9999, 3) := by decide +kernel
theorem dX9_addHouse_25 : decode cX9_addHouse 25 = .ok (.invokestatic 45, 3) := by decide +kernel
theorem dX9_addHouse_28 : decode cX9_addHouse 28 = .ok (.ifCond .ne 6, 3) := by decide +kernel
theorem dX9_addHouse_31 : decode cX9_addHouse 31 = .ok (.bipush (-2), 2) := by decide +kernel
theorem dX9_addHouse_33 : decode cX9_addHouse 33 = .ok (.ireturn, 1) := by decide +kernel
theorem dX9_addHouse_34 : decode cX9_addHouse 34 = .ok (.aload_n 0, 1) := by decide +kernel
theorem dX9_addHouse_35 : decode cX9_addHouse 35 = .ok (.getfield 7, 3) := by decide +kernel
theorem dX9_addHouse_38 : decode cX9_addHouse 38 = .ok (.iconst 2, 1) := by decide +kernel
theorem dX9_addHouse_39 : decode cX9_addHouse 39 = .ok (.iaload, 1) := by decide +kernel
theorem dX9_addHouse_40 : decode cX9_addHouse 40 = .ok (.bipush 8, 2) := by decide +kernel
theorem dX9_addHouse_42 : decode cX9_addHouse 42 = .ok (.if_icmp .ne 6, 3) := by decide +kernel
theorem dX9_addHouse_45 : decode cX9_addHouse 45 = .ok (.bipush (-3), 2) := by decide +kernel
theorem dX9_addHouse_47 : decode cX9_addHouse 47 = .ok (.ireturn, 1) := by decide +kernel
theorem dX9_addHouse_48 : decode cX9_addHouse 48 = .ok (.aload_n 0, 1) := by decide +kernel
theorem dX9_addHouse_49 : decode cX9_addHouse 49 = .ok (.invokevirtual 60, 3) := by decide +kernel
theorem dX9_addHouse_52 : decode cX9_addHouse 52 = .ok (.aload_n 0, 1) := by decide +kernel
theorem dX9_addHouse_53 : decode cX9_addHouse 53 = .ok (.getfield 7, 3) := by decide +kernel
theorem dX9_addHouse_56 : decode cX9_addHouse 56 = .ok (.iconst 2, 1) := by decide +kernel
theorem dX9_addHouse_57 : decode cX9_addHouse 57 = .ok (.iaload, 1) := by decide +kernel
theorem dX9_addHouse_58 : decode cX9_addHouse 58 = .ok (.istore 4, 2) := by decide +kernel
theorem dX9_addHouse_60 : decode cX9_addHouse 60 = .ok (.iconst 0, 1) := by decide +kernel
theorem dX9_addHouse_61 : decode cX9_addHouse 61 = .ok (.istore 5, 2) := by decide +kernel
theorem dX9_addHouse_63 : decode cX9_addHouse 63 = .ok (.iload 5, 2) := by decide +kernel
theorem dX9_addHouse_65 : decode cX9_addHouse 65 = .ok (.bipush 42, 2) := by decide +kernel
theorem dX9_addHouse_67 : decode cX9_addHouse 67 = .ok (.if_icmp .ge 18, 3) := by decide +kernel
theorem dX9_addHouse_70 : decode cX9_addHouse 70 = .ok (.aload_n 0, 1) := by decide +kernel
theorem dX9_addHouse_71 : decode cX9_addHouse 71 = .ok (.iload 4, 2) := by decide +kernel
theorem dX9_addHouse_73 : decode cX9_addHouse 73 = .ok (.iload 5, 2) := by decide +kernel
theorem dX9_addHouse_75 : decode cX9_addHouse 75 = .ok (.iconst 0, 1) := by decide +kernel
theorem dX9_addHouse_76 : decode cX9_addHouse 76 = .ok (.invokevirtual 63, 3) := by decide +kernel
theorem dX9_addHouse_79 : decode cX9_addHouse 79 = .ok (.iinc 5 1, 3) := by decide +kernel
theorem dX9_addHouse_82 : decode cX9_addHouse 82 = .ok (.goto (-19), 3) := by decide +kernel
theorem dX9_addHouse_85 : decode cX9_addHouse 85 = .ok (.aload_n 0, 1) := by decide +kernel
theorem dX9_addHouse_86 : decode cX9_addHouse 86 = .ok (.iload 4, 2) := by decide +kernel
theorem dX9_addHouse_88 : decode cX9_addHouse 88 = .ok (.iconst 0, 1) := by decide +kernel
theorem dX9_addHouse_89 : decode cX9_addHouse 89 = .ok (.iload_n 1, 1) := by decide +kernel
theorem dX9_addHouse_90 : decode cX9_addHouse 90 = .ok (.invokevirtual 63, 3) := by decide +kernel
theorem dX9_addHouse_93 : decode cX9_addHouse 93 = .ok (.aload_n 0, 1) := by decide +kernel
theorem dX9_addHouse_94 : decode cX9_addHouse 94 = .ok (.iload 4, 2) := by decide +kernel
theorem dX9_addHouse_96 : decode cX9_addHouse 96 = .ok (.iconst 1, 1) := by decide +kernel
theorem dX9_addHouse_97 : decode cX9_addHouse 97 = .ok (.iload_n 2, 1) := by decide +kernel
theorem dX9_addHouse_98 : decode cX9_addHouse 98 = .ok (.invokevirtual 63, 3) := by decide +kernel
theorem dX9_addHouse_101 : decode cX9_addHouse 101 = .ok (.aload_n 0, 1) := by decide +kernel
theorem dX9_addHouse_102 : decode cX9_addHouse 102 = .ok (.iload 4, 2) := by decide +kernel
theorem dX9_addHouse_104 : decode cX9_addHouse 104 = .ok (.iconst 2, 1) := by decide +kernel
theorem dX9_addHouse_105 : decode cX9_addHouse 105 = .ok (.iload_n 3, 1) := by decide +kernel
theorem dX9_addHouse_106 : decode cX9_addHouse 106 = .ok (.invokevirtual 63, 3) := by decide +kernel
theorem dX9_addHouse_109 : decode cX9_addHouse 109 = .ok (.aload_n 0, 1) := by decide +kernel
theorem dX9_addHouse_110 : decode cX9_addHouse 110 = .ok (.iload 4, 2) := by decide +kernel
theorem dX9_addHouse_112 : decode cX9_addHouse 112 = .ok (.bipush 13, 2) := by decide +kernel
theorem dX9_addHouse_114 : decode cX9_addHouse 114 = .ok (.iconst 1, 1) := by decide +kernel
theorem dX9_addHouse_115 : decode cX9_addHouse 115 = .ok (.invokevirtual 63, 3) := by decide +kernel
theorem dX9_addHouse_118 : decode cX9_addHouse 118 = .ok (.aload_n 0, 1) := by decide +kernel
theorem dX9_addHouse_119 : decode cX9_addHouse 119 = .ok (.getfield 7, 3) := by decide +kernel
theorem dX9_addHouse_122 : decode cX9_addHouse 122 = .ok (.iconst 2, 1) := by decide +kernel
theorem dX9_addHouse_123 : decode cX9_addHouse 123 = .ok (.dup2, 1) := by decide +kernel
theorem dX9_addHouse_124 : decode cX9_addHouse 124 = .ok (.iaload, 1) := by decide +kernel
theorem dX9_addHouse_125 : decode cX9_addHouse 125 = .ok (.iconst 1, 1) := by decide +kernel
theorem dX9_addHouse_126 : decode cX9_addHouse 126 = .ok (.iadd, 1) := by decide +kernel
theorem dX9_addHouse_127 : decode cX9_addHouse 127 = .ok (.iastore, 1) := by decide +kernel
theorem dX9_addHouse_128 : decode cX9_addHouse 128 = .ok (.iload 4, 2) := by decide +kernel
theorem dX9_addHouse_130 : decode cX9_addHouse 130 = .ok (.ireturn, 1) := by decide +kernel
theorem dX9_isSetting_0 : decode cX9_isSetting 0 = .ok (.iload_n 0, 1) := by decide +kernel
theorem dX9_isSetting_1 : decode cX9_isSetting 1 = .ok (.tableswitch 69 0 3 #[31, 41, 50, 60], 31) := by decide +kernel
theorem dX9_isSetting_32 : decode cX9_isSetting 32 = .ok (.iload_n 1, 1) := by decide +kernel
theorem dX9_isSetting_33 : decode cX9_isSetting 33 = .ok (.sipush 1000, 3) := by decide +kernel
theorem dX9_isSetting_36 : decode cX9_isSetting 36 = .ok (.ldc 67, 2) := by decide +kernel
theorem dX9_isSetting_38 : decode cX9_isSetting 38 = .ok (.invokestatic 45, 3) := by decide +kernel
theorem dX9_isSetting_41 : decode cX9_isSetting 41 = .ok (.ireturn, 1) := by decide +kernel
theorem dX9_isSetting_42 : decode cX9_isSetting 42 = .ok (.iload_n 1, 1) := by decide +kernel
theorem dX9_isSetting_43 : decode cX9_isSetting 43 = .ok (.iconst 0, 1) := by decide +kernel
theorem dX9_isSetting_44 : decode cX9_isSetting 44 = .ok (.sipush 900, 3) := by decide +kernel
theorem dX9_isSetting_47 : decode cX9_isSetting 47 = .ok (.invokestatic 45, 3) := by decide +kernel
theorem dX9_isSetting_50 : decode cX9_isSetting 50 = .ok (.ireturn, 1) := by decide +kernel
theorem dX9_isSetting_51 : decode cX9_isSetting 51 = .ok (.iload_n 1, 1) := by decide +kernel
theorem dX9_isSetting_52 : decode cX9_isSetting 52 = .ok (.bipush 10, 2) := by decide +kernel
theorem dX9_isSetting_54 : decode cX9_isSetting 54 = .ok (.sipush 2000, 3) := by decide +kernel
theorem dX9_isSetting_57 : decode cX9_isSetting 57 = .ok (.invokestatic 45, 3) := by decide +kernel
theorem dX9_isSetting_60 : decode cX9_isSetting 60 = .ok (.ireturn, 1) := by decide +kernel
theorem dX9_isSetting_61 : decode cX9_isSetting 61 = .ok (.iload_n 1, 1) := by decide +kernel
theorem dX9_isSetting_62 : decode cX9_isSetting 62 = .ok (.bipush 20, 2) := by decide +kernel
theorem dX9_isSetting_64 : decode cX9_isSetting 64 = .ok (.bipush 60, 2) := by decide +kernel
theorem dX9_isSetting_66 : decode cX9_isSetting 66 = .ok (.invokestatic 45, 3) := by decide +kernel
theorem dX9_isSetting_69 : decode cX9_isSetting 69 = .ok (.ireturn, 1) := by decide +kernel
theorem dX9_isSetting_70 : decode cX9_isSetting 70 = .ok (.iconst 0, 1) := by decide +kernel
theorem dX9_isSetting_71 : decode cX9_isSetting 71 = .ok (.ireturn, 1) := by decide +kernel
theorem dX9_isTooHot_0 : decode cX9_isTooHot 0 = .ok (.iconst 0, 1) := by decide +kernel
theorem dX9_isTooHot_1 : decode cX9_isTooHot 1 = .ok (.istore_n 2, 1) := by decide +kernel
theorem dX9_isTooHot_2 : decode cX9_isTooHot 2 = .ok (.iconst 0, 1) := by decide +kernel
theorem dX9_isTooHot_3 : decode cX9_isTooHot 3 = .ok (.istore_n 3, 1) := by decide +kernel
theorem dX9_isTooHot_4 : decode cX9_isTooHot 4 = .ok (.iload_n 3, 1) := by decide +kernel
theorem dX9_isTooHot_5 : decode cX9_isTooHot 5 = .ok (.aload_n 0, 1) := by decide +kernel
theorem dX9_isTooHot_6 : decode cX9_isTooHot 6 = .ok (.getfield 7, 3) := by decide +kernel
theorem dX9_isTooHot_9 : decode cX9_isTooHot 9 = .ok (.iconst 2, 1) := by decide +kernel
theorem dX9_isTooHot_10 : decode cX9_isTooHot 10 = .ok (.iaload, 1) := by decide +kernel
theorem dX9_isTooHot_11 : decode cX9_isTooHot 11 = .ok (.if_icmp .ge 39, 3) := by decide +kernel
theorem dX9_isTooHot_14 : decode cX9_isTooHot 14 = .ok (.iload_n 2, 1) := by decide +kernel
theorem dX9_isTooHot_15 : decode cX9_isTooHot 15 = .ok (.ifCond .ne 23, 3) := by decide +kernel
theorem dX9_isTooHot_18 : decode cX9_isTooHot 18 = .ok (.aload_n 0, 1) := by decide +kernel
theorem dX9_isTooHot_19 : decode cX9_isTooHot 19 = .ok (.iload_n 3, 1) := by decide +kernel
theorem dX9_isTooHot_20 : decode cX9_isTooHot 20 = .ok (.bipush 13, 2) := by decide +kernel
theorem dX9_isTooHot_22 : decode cX9_isTooHot 22 = .ok (.invokevirtual 49, 3) := by decide +kernel
theorem dX9_isTooHot_25 : decode cX9_isTooHot 25 = .ok (.iconst 2, 1) := by decide +kernel
theorem dX9_isTooHot_26 : decode cX9_isTooHot 26 = .ok (.if_icmp .eq 16, 3) := by decide +kernel
theorem dX9_isTooHot_29 : decode cX9_isTooHot 29 = .ok (.aload_n 0, 1) := by decide +kernel
theorem dX9_isTooHot_30 : decode cX9_isTooHot 30 = .ok (.iload_n 3, 1) := by decide +kernel
theorem dX9_isTooHot_31 : decode cX9_isTooHot 31 = .ok (.invokevirtual 68, 3) := by decide +kernel
theorem dX9_isTooHot_34 : decode cX9_isTooHot 34 = .ok (.iload_n 1, 1) := by decide +kernel
theorem dX9_isTooHot_35 : decode cX9_isTooHot 35 = .ok (.if_icmp .le 7, 3) := by decide +kernel
theorem dX9_isTooHot_38 : decode cX9_isTooHot 38 = .ok (.iconst 1, 1) := by decide +kernel
theorem dX9_isTooHot_39 : decode cX9_isTooHot 39 = .ok (.goto 4, 3) := by decide +kernel
theorem dX9_isTooHot_42 : decode cX9_isTooHot 42 = .ok (.iconst 0, 1) := by decide +kernel
theorem dX9_isTooHot_43 : decode cX9_isTooHot 43 = .ok (.istore_n 2, 1) := by decide +kernel
theorem dX9_isTooHot_44 : decode cX9_isTooHot 44 = .ok (.iinc 3 1, 3) := by decide +kernel
theorem dX9_isTooHot_47 : decode cX9_isTooHot 47 = .ok (.goto (-43), 3) := by decide +kernel
theorem dX9_isTooHot_50 : decode cX9_isTooHot 50 = .ok (.iload_n 2, 1) := by decide +kernel
theorem dX9_isTooHot_51 : decode cX9_isTooHot 51 = .ok (.ireturn, 1) := by decide +kernel
theorem dX9_set_0 : decode cX9_set 0 = .ok (.iload_n 1, 1) := by decide +kernel
theorem dX9_set_1 : decode cX9_set 1 = .ok (.iload_n 2, 1) := by decide +kernel
theorem dX9_set_2 : decode cX9_set 2 = .ok (.invokestatic 71, 3) := by decide +kernel
theorem dX9_set_5 : decode cX9_set 5 = .ok (.ifCond .ne 6, 3) := by decide +kernel
theorem dX9_set_8 : decode cX9_set 8 = .ok (.bipush (-2), 2) := by decide +kernel
theorem dX9_set_10 : decode cX9_set 10 = .ok (.ireturn, 1) := by decide +kernel
theorem dX9_set_11 : decode cX9_set 11 = .ok (.iload_n 1, 1) := by decide +kernel
theorem dX9_set_12 : decode cX9_set 12 = .ok (.ifCond .ne 14, 3) := by decide +kernel
theorem dX9_set_15 : decode cX9_set 15 = .ok (.aload_n 0, 1) := by decide +kernel
theorem dX9_set_16 : decode cX9_set 16 = .ok (.getfield 7, 3) := by decide +kernel
theorem dX9_set_19 : decode cX9_set 19 = .ok (.bipush 7, 2) := by decide +kernel
theorem dX9_set_21 : decode cX9_set 21 = .ok (.iaload, 1) := by decide +kernel
theorem dX9_set_22 : decode cX9_set 22 = .ok (.iload_n 2, 1) := by decide +kernel
theorem dX9_set_23 : decode cX9_set 23 = .ok (.if_icmp .gt 16, 3) := by decide +kernel
theorem dX9_set_26 : decode cX9_set 26 = .ok (.iload_n 1, 1) := by decide +kernel
theorem dX9_set_27 : decode cX9_set 27 = .ok (.iconst 3, 1) := by decide +kernel
theorem dX9_set_28 : decode cX9_set 28 = .ok (.if_icmp .ne 14, 3) := by decide +kernel
theorem dX9_set_31 : decode cX9_set 31 = .ok (.aload_n 0, 1) := by decide +kernel
theorem dX9_set_32 : decode cX9_set 32 = .ok (.iload_n 2, 1) := by decide +kernel
theorem dX9_set_33 : decode cX9_set 33 = .ok (.invokevirtual 75, 3) := by decide +kernel
theorem dX9_set_36 : decode cX9_set 36 = .ok (.ifCond .eq 6, 3) := by decide +kernel
theorem dX9_set_39 : decode cX9_set 39 = .ok (.bipush (-4), 2) := by decide +kernel
theorem dX9_set_41 : decode cX9_set 41 = .ok (.ireturn, 1) := by decide +kernel
theorem dX9_set_42 : decode cX9_set 42 = .ok (.aload_n 0, 1) := by decide +kernel
theorem dX9_set_43 : decode cX9_set 43 = .ok (.getfield 7, 3) := by decide +kernel
theorem dX9_set_46 : decode cX9_set 46 = .ok (.iconst 3, 1) := by decide +kernel
theorem dX9_set_47 : decode cX9_set 47 = .ok (.iload_n 1, 1) := by decide +kernel
theorem dX9_set_48 : decode cX9_set 48 = .ok (.iadd, 1) := by decide +kernel
theorem dX9_set_49 : decode cX9_set 49 = .ok (.iaload, 1) := by decide +kernel
theorem dX9_set_50 : decode cX9_set 50 = .ok (.istore_n 3, 1) := by decide +kernel
theorem dX9_set_51 : decode cX9_set 51 = .ok (.iload_n 3, 1) := by decide +kernel
theorem dX9_set_52 : decode cX9_set 52 = .ok (.iload_n 2, 1) := by decide +kernel
theorem dX9_set_53 : decode cX9_set 53 = .ok (.if_icmp .ne 6, 3) := by decide +kernel
theorem dX9_set_56 : decode cX9_set 56 = .ok (.bipush (-5), 2) := by decide +kernel
theorem dX9_set_58 : decode cX9_set 58 = .ok (.ireturn, 1) := by decide +kernel
theorem dX9_set_59 : decode cX9_set 59 = .ok (.aload_n 0, 1) := by decide +kernel
theorem dX9_set_60 : decode cX9_set 60 = .ok (.invokevirtual 60, 3) := by decide +kernel
theorem dX9_set_63 : decode cX9_set 63 = .ok (.aload_n 0, 1) := by decide +kernel
theorem dX9_set_64 : decode cX9_set 64 = .ok (.getfield 7, 3) := by decide +kernel
theorem dX9_set_67 : decode cX9_set 67 = .ok (.iconst 3, 1) := by decide +kernel
theorem dX9_set_68 : decode cX9_set 68 = .ok (.iload_n 1, 1) := by decide +kernel
theorem dX9_set_69 : decode cX9_set 69 = .ok (.iadd, 1) := by decide +kernel
theorem dX9_set_70 : decode cX9_set 70 = .ok (.iload_n 2, 1) := by decide +kernel
theorem dX9_set_71 : decode cX9_set 71 = .ok (.iastore, 1) := by decide +kernel
theorem dX9_set_72 : decode cX9_set 72 = .ok (.iload_n 3, 1) := by decide +kernel
theorem dX9_set_73 : decode cX9_set 73 = .ok (.ireturn, 1) := by decide +kernel
theorem dX9_power_0 : decode cX9_power 0 = .ok (.iload_n 1, 1) := by decide +kernel
theorem dX9_power_1 : decode cX9_power 1 = .ok (.ifCond .eq 7, 3) := by decide +kernel
theorem dX9_power_4 : decode cX9_power 4 = .ok (.iconst 1, 1) := by decide +kernel
theorem dX9_power_5 : decode cX9_power 5 = .ok (.goto 4, 3) := by decide +kernel
theorem dX9_power_8 : decode cX9_power 8 = .ok (.iconst 0, 1) := by decide +kernel
theorem dX9_power_9 : decode cX9_power 9 = .ok (.istore_n 2, 1) := by decide +kernel
theorem dX9_power_10 : decode cX9_power 10 = .ok (.aload_n 0, 1) := by decide +kernel
theorem dX9_power_11 : decode cX9_power 11 = .ok (.getfield 7, 3) := by decide +kernel
theorem dX9_power_14 : decode cX9_power 14 = .ok (.iconst 1, 1) := by decide +kernel
theorem dX9_power_15 : decode cX9_power 15 = .ok (.iaload, 1) := by decide +kernel
theorem dX9_power_16 : decode cX9_power 16 = .ok (.iload_n 2, 1) := by decide +kernel
theorem dX9_power_17 : decode cX9_power 17 = .ok (.if_icmp .ne 6, 3) := by decide +kernel
theorem dX9_power_20 : decode cX9_power 20 = .ok (.bipush (-5), 2) := by decide +kernel
theorem dX9_power_22 : decode cX9_power 22 = .ok (.ireturn, 1) := by decide +kernel
theorem dX9_power_23 : decode cX9_power 23 = .ok (.aload_n 0, 1) := by decide +kernel
theorem dX9_power_24 : decode cX9_power 24 = .ok (.invokevirtual 60, 3) := by decide +kernel
theorem dX9_power_27 : decode cX9_power 27 = .ok (.aload_n 0, 1) := by decide +kernel
theorem dX9_power_28 : decode cX9_power 28 = .ok (.getfield 7, 3) := by decide +kernel
theorem dX9_power_31 : decode cX9_power 31 = .ok (.iconst 1, 1) := by decide +kernel
theorem dX9_power_32 : decode cX9_power 32 = .ok (.iload_n 2, 1) := by decide +kernel
theorem dX9_power_33 : decode cX9_power 33 = .ok (.iastore, 1) := by decide +kernel
theorem dX9_power_34 : decode cX9_power 34 = .ok (.iconst 0, 1) := by decide +kernel
theorem dX9_power_35 : decode cX9_power 35 = .ok (.istore_n 3, 1) := by decide +kernel
theorem dX9_power_36 : decode cX9_power 36 = .ok (.iload_n 3, 1) := by decide +kernel
theorem dX9_power_37 : decode cX9_power 37 = .ok (.aload_n 0, 1) := by decide +kernel
theorem dX9_power_38 : decode cX9_power 38 = .ok (.getfield 7, 3) := by decide +kernel
theorem dX9_power_41 : decode cX9_power 41 = .ok (.iconst 2, 1) := by decide +kernel
theorem dX9_power_42 : decode cX9_power 42 = .ok (.iaload, 1) := by decide +kernel
theorem dX9_power_43 : decode cX9_power 43 = .ok (.if_icmp .ge 39, 3) := by decide +kernel
theorem dX9_power_46 : decode cX9_power 46 = .ok (.iload_n 1, 1) := by decide +kernel
theorem dX9_power_47 : decode cX9_power 47 = .ok (.ifCond .eq 35, 3) := by decide +kernel
theorem dX9_power_50 : decode cX9_power 50 = .ok (.aload_n 0, 1) := by decide +kernel
theorem dX9_power_51 : decode cX9_power 51 = .ok (.iload_n 3, 1) := by decide +kernel
theorem dX9_power_52 : decode cX9_power 52 = .ok (.invokevirtual 79, 3) := by decide +kernel
theorem dX9_power_55 : decode cX9_power 55 = .ok (.ifCond .eq 21, 3) := by decide +kernel
theorem dX9_power_58 : decode cX9_power 58 = .ok (.aload_n 0, 1) := by decide +kernel
theorem dX9_power_59 : decode cX9_power 59 = .ok (.iload_n 3, 1) := by decide +kernel
theorem dX9_power_60 : decode cX9_power 60 = .ok (.invokevirtual 82, 3) := by decide +kernel
theorem dX9_power_63 : decode cX9_power 63 = .ok (.bipush 115, 2) := by decide +kernel
theorem dX9_power_65 : decode cX9_power 65 = .ok (.if_icmp .ne 11, 3) := by decide +kernel
theorem dX9_power_68 : decode cX9_power 68 = .ok (.aload_n 0, 1) := by decide +kernel
theorem dX9_power_69 : decode cX9_power 69 = .ok (.iload_n 3, 1) := by decide +kernel
theorem dX9_power_70 : decode cX9_power 70 = .ok (.bipush 14, 2) := by decide +kernel
theorem dX9_power_72 : decode cX9_power 72 = .ok (.iconst 0, 1) := by decide +kernel
theorem dX9_power_73 : decode cX9_power 73 = .ok (.invokevirtual 63, 3) := by decide +kernel
theorem dX9_power_76 : decode cX9_power 76 = .ok (.iinc 3 1, 3) := by decide +kernel
theorem dX9_power_79 : decode cX9_power 79 = .ok (.goto (-43), 3) := by decide +kernel
theorem dX9_power_82 : decode cX9_power 82 = .ok (.aload_n 0, 1) := by decide +kernel
theorem dX9_power_83 : decode cX9_power 83 = .ok (.iconst 1, 1) := by decide +kernel
theorem dX9_power_84 : decode cX9_power 84 = .ok (.invokevirtual 85, 3) := by decide +kernel
theorem dX9_power_87 : decode cX9_power 87 = .ok (.ireturn, 1) := by decide +kernel
theorem dX9_wantOf_0 : decode cX9_wantOf 0 = .ok (.aload_n 0, 1) := by decide +kernel
theorem dX9_wantOf_1 : decode cX9_wantOf 1 = .ok (.iload_n 1, 1) := by decide +kernel
theorem dX9_wantOf_2 : decode cX9_wantOf 2 = .ok (.invokevirtual 79, 3) := by decide +kernel
theorem dX9_wantOf_5 : decode cX9_wantOf 5 = .ok (.ifCond .eq 23, 3) := by decide +kernel
theorem dX9_wantOf_8 : decode cX9_wantOf 8 = .ok (.aload_n 0, 1) := by decide +kernel
theorem dX9_wantOf_9 : decode cX9_wantOf 9 = .ok (.iload_n 1, 1) := by decide +kernel
theorem dX9_wantOf_10 : decode cX9_wantOf 10 = .ok (.invokevirtual 82, 3) := by decide +kernel
theorem dX9_wantOf_13 : decode cX9_wantOf 13 = .ok (.bipush 104, 2) := by decide +kernel
theorem dX9_wantOf_15 : decode cX9_wantOf 15 = .ok (.if_icmp .ne 13, 3) := by decide +kernel
theorem dX9_wantOf_18 : decode cX9_wantOf 18 = .ok (.aload_n 0, 1) := by decide +kernel
theorem dX9_wantOf_19 : decode cX9_wantOf 19 = .ok (.iload_n 1, 1) := by decide +kernel
theorem dX9_wantOf_20 : decode cX9_wantOf 20 = .ok (.bipush 11, 2) := by decide +kernel
theorem dX9_wantOf_22 : decode cX9_wantOf 22 = .ok (.invokevirtual 49, 3) := by decide +kernel
theorem dX9_wantOf_25 : decode cX9_wantOf 25 = .ok (.ifCond .ne 5, 3) := by decide +kernel
theorem dX9_wantOf_28 : decode cX9_wantOf 28 = .ok (.iconst 0, 1) := by decide +kernel
theorem dX9_wantOf_29 : decode cX9_wantOf 29 = .ok (.ireturn, 1) := by decide +kernel
theorem dX9_wantOf_30 : decode cX9_wantOf 30 = .ok (.iconst 4, 1) := by decide +kernel
theorem dX9_wantOf_31 : decode cX9_wantOf 31 = .ok (.aload_n 0, 1) := by decide +kernel
theorem dX9_wantOf_32 : decode cX9_wantOf 32 = .ok (.iload_n 1, 1) := by decide +kernel
theorem dX9_wantOf_33 : decode cX9_wantOf 33 = .ok (.bipush 11, 2) := by decide +kernel
theorem dX9_wantOf_35 : decode cX9_wantOf 35 = .ok (.invokevirtual 49, 3) := by decide +kernel
theorem dX9_wantOf_38 : decode cX9_wantOf 38 = .ok (.imul, 1) := by decide +kernel
theorem dX9_wantOf_39 : decode cX9_wantOf 39 = .ok (.aload_n 0, 1) := by decide +kernel
theorem dX9_wantOf_40 : decode cX9_wantOf 40 = .ok (.iload_n 1, 1) := by decide +kernel
theorem dX9_wantOf_41 : decode cX9_wantOf 41 = .ok (.invokevirtual 88, 3) := by decide +kernel
theorem dX9_wantOf_44 : decode cX9_wantOf 44 = .ok (.imul, 1) := by decide +kernel
theorem dX9_wantOf_45 : decode cX9_wantOf 45 = .ok (.aload_n 0, 1) := by decide +kernel
theorem dX9_wantOf_46 : decode cX9_wantOf 46 = .ok (.iload_n 1, 1) := by decide +kernel
theorem dX9_wantOf_47 : decode cX9_wantOf 47 = .ok (.bipush 12, 2) := by decide +kernel
theorem dX9_wantOf_49 : decode cX9_wantOf 49 = .ok (.invokevirtual 49, 3) := by decide +kernel
theorem dX9_wantOf_52 : decode cX9_wantOf 52 = .ok (.isub, 1) := by decide +kernel
theorem dX9_wantOf_53 : decode cX9_wantOf 53 = .ok (.istore_n 2, 1) := by decide +kernel
theorem dX9_wantOf_54 : decode cX9_wantOf 54 = .ok (.iload_n 2, 1) := by decide +kernel
theorem dX9_wantOf_55 : decode cX9_wantOf 55 = .ok (.ifCond .ge 7, 3) := by decide +kernel
theorem dX9_wantOf_58 : decode cX9_wantOf 58 = .ok (.iconst 0, 1) := by decide +kernel
theorem dX9_wantOf_59 : decode cX9_wantOf 59 = .ok (.goto 17, 3) := by decide +kernel
theorem dX9_wantOf_62 : decode cX9_wantOf 62 = .ok (.iload_n 2, 1) := by decide +kernel
theorem dX9_wantOf_63 : decode cX9_wantOf 63 = .ok (.sipush 250, 3) := by decide +kernel
theorem dX9_wantOf_66 : decode cX9_wantOf 66 = .ok (.if_icmp .le 9, 3) := by decide +kernel
theorem dX9_wantOf_69 : decode cX9_wantOf 69 = .ok (.sipush 250, 3) := by decide +kernel
theorem dX9_wantOf_72 : decode cX9_wantOf 72 = .ok (.goto 4, 3) := by decide +kernel
theorem dX9_wantOf_75 : decode cX9_wantOf 75 = .ok (.iload_n 2, 1) := by decide +kernel
theorem dX9_wantOf_76 : decode cX9_wantOf 76 = .ok (.ireturn, 1) := by decide +kernel
theorem dX9_wantingShares_0 : decode cX9_wantingShares 0 = .ok (.iconst 0, 1) := by decide +kernel
theorem dX9_wantingShares_1 : decode cX9_wantingShares 1 = .ok (.istore_n 1, 1) := by decide +kernel
theorem dX9_wantingShares_2 : decode cX9_wantingShares 2 = .ok (.iconst 0, 1) := by decide +kernel
theorem dX9_wantingShares_3 : decode cX9_wantingShares 3 = .ok (.istore_n 2, 1) := by decide +kernel
theorem dX9_wantingShares_4 : decode cX9_wantingShares 4 = .ok (.iload_n 2, 1) := by decide +kernel
theorem dX9_wantingShares_5 : decode cX9_wantingShares 5 = .ok (.aload_n 0, 1) := by decide +kernel
theorem dX9_wantingShares_6 : decode cX9_wantingShares 6 = .ok (.getfield 7, 3) := by decide +kernel
theorem dX9_wantingShares_9 : decode cX9_wantingShares 9 = .ok (.iconst 2, 1) := by decide +kernel
theorem dX9_wantingShares_10 : decode cX9_wantingShares 10 = .ok (.iaload, 1) := by decide +kernel
theorem dX9_wantingShares_11 : decode cX9_wantingShares 11 = .ok (.if_icmp .ge 36, 3) := by decide +kernel
theorem dX9_wantingShares_14 : decode cX9_wantingShares 14 = .ok (.iload_n 1, 1) := by decide +kernel
theorem dX9_wantingShares_15 : decode cX9_wantingShares 15 = .ok (.aload_n 0, 1) := by decide +kernel
theorem dX9_wantingShares_16 : decode cX9_wantingShares 16 = .ok (.getfield 28, 3) := by decide +kernel
theorem dX9_wantingShares_19 : decode cX9_wantingShares 19 = .ok (.iload_n 2, 1) := by decide +kernel
theorem dX9_wantingShares_20 : decode cX9_wantingShares 20 = .ok (.iaload, 1) := by decide +kernel
theorem dX9_wantingShares_21 : decode cX9_wantingShares 21 = .ok (.aload_n 0, 1) := by decide +kernel
theorem dX9_wantingShares_22 : decode cX9_wantingShares 22 = .ok (.getfield 25, 3) := by decide +kernel
theorem dX9_wantingShares_25 : decode cX9_wantingShares 25 = .ok (.iload_n 2, 1) := by decide +kernel
theorem dX9_wantingShares_26 : decode cX9_wantingShares 26 = .ok (.iaload, 1) := by decide +kernel
theorem dX9_wantingShares_27 : decode cX9_wantingShares 27 = .ok (.if_icmp .ge 11, 3) := by decide +kernel
theorem dX9_wantingShares_30 : decode cX9_wantingShares 30 = .ok (.aload_n 0, 1) := by decide +kernel
theorem dX9_wantingShares_31 : decode cX9_wantingShares 31 = .ok (.iload_n 2, 1) := by decide +kernel
theorem dX9_wantingShares_32 : decode cX9_wantingShares 32 = .ok (.invokevirtual 91, 3) := by decide +kernel
theorem dX9_wantingShares_35 : decode cX9_wantingShares 35 = .ok (.goto 4, 3) := by decide +kernel
theorem dX9_wantingShares_38 : decode cX9_wantingShares 38 = .ok (.iconst 0, 1) := by decide +kernel
theorem dX9_wantingShares_39 : decode cX9_wantingShares 39 = .ok (.iadd, 1) := by decide +kernel
theorem dX9_wantingShares_40 : decode cX9_wantingShares 40 = .ok (.istore_n 1, 1) := by decide +kernel
theorem dX9_wantingShares_41 : decode cX9_wantingShares 41 = .ok (.iinc 2 1, 3) := by decide +kernel
theorem dX9_wantingShares_44 : decode cX9_wantingShares 44 = .ok (.goto (-40), 3) := by decide +kernel
theorem dX9_wantingShares_47 : decode cX9_wantingShares 47 = .ok (.iload_n 1, 1) := by decide +kernel
theorem dX9_wantingShares_48 : decode cX9_wantingShares 48 = .ok (.ireturn, 1) := by decide +kernel
theorem dX9_split_0 : decode cX9_split 0 = .ok (.iconst 0, 1) := by decide +kernel
theorem dX9_split_1 : decode cX9_split 1 = .ok (.istore_n 2, 1) := by decide +kernel
theorem dX9_split_2 : decode cX9_split 2 = .ok (.iload_n 2, 1) := by decide +kernel
theorem dX9_split_3 : decode cX9_split 3 = .ok (.bipush 8, 2) := by decide +kernel
theorem dX9_split_5 : decode cX9_split 5 = .ok (.if_icmp .ge 41, 3) := by decide +kernel
theorem dX9_split_8 : decode cX9_split 8 = .ok (.aload_n 0, 1) := by decide +kernel
theorem dX9_split_9 : decode cX9_split 9 = .ok (.getfield 25, 3) := by decide +kernel
theorem dX9_split_12 : decode cX9_split 12 = .ok (.iload_n 2, 1) := by decide +kernel
theorem dX9_split_13 : decode cX9_split 13 = .ok (.iload_n 2, 1) := by decide +kernel
theorem dX9_split_14 : decode cX9_split 14 = .ok (.aload_n 0, 1) := by decide +kernel
theorem dX9_split_15 : decode cX9_split 15 = .ok (.getfield 7, 3) := by decide +kernel
theorem dX9_split_18 : decode cX9_split 18 = .ok (.iconst 2, 1) := by decide +kernel
theorem dX9_split_19 : decode cX9_split 19 = .ok (.iaload, 1) := by decide +kernel
theorem dX9_split_20 : decode cX9_split 20 = .ok (.if_icmp .ge 11, 3) := by decide +kernel
theorem dX9_split_23 : decode cX9_split 23 = .ok (.aload_n 0, 1) := by decide +kernel
theorem dX9_split_24 : decode cX9_split 24 = .ok (.iload_n 2, 1) := by decide +kernel
theorem dX9_split_25 : decode cX9_split 25 = .ok (.invokevirtual 94, 3) := by decide +kernel
theorem dX9_split_28 : decode cX9_split 28 = .ok (.goto 4, 3) := by decide +kernel
theorem dX9_split_31 : decode cX9_split 31 = .ok (.iconst 0, 1) := by decide +kernel
theorem dX9_split_32 : decode cX9_split 32 = .ok (.iastore, 1) := by decide +kernel
theorem dX9_split_33 : decode cX9_split 33 = .ok (.aload_n 0, 1) := by decide +kernel
theorem dX9_split_34 : decode cX9_split 34 = .ok (.getfield 28, 3) := by decide +kernel
theorem dX9_split_37 : decode cX9_split 37 = .ok (.iload_n 2, 1) := by decide +kernel
theorem dX9_split_38 : decode cX9_split 38 = .ok (.iconst 0, 1) := by decide +kernel
theorem dX9_split_39 : decode cX9_split 39 = .ok (.iastore, 1) := by decide +kernel
theorem dX9_split_40 : decode cX9_split 40 = .ok (.iinc 2 1, 3) := by decide +kernel
theorem dX9_split_43 : decode cX9_split 43 = .ok (.goto (-41), 3) := by decide +kernel
theorem dX9_split_46 : decode cX9_split 46 = .ok (.iload_n 1, 1) := by decide +kernel
theorem dX9_split_47 : decode cX9_split 47 = .ok (.istore_n 2, 1) := by decide +kernel
theorem dX9_split_48 : decode cX9_split 48 = .ok (.iconst 0, 1) := by decide +kernel
theorem dX9_split_49 : decode cX9_split 49 = .ok (.istore_n 3, 1) := by decide +kernel
theorem dX9_split_50 : decode cX9_split 50 = .ok (.iload_n 2, 1) := by decide +kernel
theorem dX9_split_51 : decode cX9_split 51 = .ok (.ifCond .le 181, 3) := by decide +kernel
theorem dX9_split_54 : decode cX9_split 54 = .ok (.iload_n 3, 1) := by decide +kernel
theorem dX9_split_55 : decode cX9_split 55 = .ok (.bipush (-5), 2) := by decide +kernel
theorem dX9_split_57 : decode cX9_split 57 = .ok (.if_icmp .eq 175, 3) := by decide +kernel
theorem dX9_split_60 : decode cX9_split 60 = .ok (.aload_n 0, 1) := by decide +kernel
theorem dX9_split_61 : decode cX9_split 61 = .ok (.invokevirtual 97, 3) := by decide +kernel
theorem dX9_split_64 : decode cX9_split 64 = .ok (.istore 4, 2) := by decide +kernel
theorem dX9_split_66 : decode cX9_split 66 = .ok (.iload_n 2, 1) := by decide +kernel
theorem dX9_split_67 : decode cX9_split 67 = .ok (.istore 5, 2) := by decide +kernel
theorem dX9_split_69 : decode cX9_split 69 = .ok (.bipush (-5), 2) := by decide +kernel
theorem dX9_split_71 : decode cX9_split 71 = .ok (.istore_n 3, 1) := by decide +kernel
theorem dX9_split_72 : decode cX9_split 72 = .ok (.iconst 0, 1) := by decide +kernel
theorem dX9_split_73 : decode cX9_split 73 = .ok (.istore 6, 2) := by decide +kernel
theorem dX9_split_75 : decode cX9_split 75 = .ok (.iload 6, 2) := by decide +kernel
theorem dX9_split_77 : decode cX9_split 77 = .ok (.aload_n 0, 1) := by decide +kernel
theorem dX9_split_78 : decode cX9_split 78 = .ok (.getfield 7, 3) := by decide +kernel
theorem dX9_split_81 : decode cX9_split 81 = .ok (.iconst 2, 1) := by decide +kernel
theorem dX9_split_82 : decode cX9_split 82 = .ok (.iaload, 1) := by decide +kernel
theorem dX9_split_83 : decode cX9_split 83 = .ok (.if_icmp .ge 121, 3) := by decide +kernel
theorem dX9_split_86 : decode cX9_split 86 = .ok (.aload_n 0, 1) := by decide +kernel
theorem dX9_split_87 : decode cX9_split 87 = .ok (.getfield 28, 3) := by decide +kernel
theorem dX9_split_90 : decode cX9_split 90 = .ok (.iload 6, 2) := by decide +kernel
theorem dX9_split_92 : decode cX9_split 92 = .ok (.iaload, 1) := by decide +kernel
theorem dX9_split_93 : decode cX9_split 93 = .ok (.aload_n 0, 1) := by decide +kernel
theorem dX9_split_94 : decode cX9_split 94 = .ok (.getfield 25, 3) := by decide +kernel
theorem dX9_split_97 : decode cX9_split 97 = .ok (.iload 6, 2) := by decide +kernel
theorem dX9_split_99 : decode cX9_split 99 = .ok (.iaload, 1) := by decide +kernel
theorem dX9_split_100 : decode cX9_split 100 = .ok (.if_icmp .ge 98, 3) := by decide +kernel
theorem dX9_split_103 : decode cX9_split 103 = .ok (.iload 4, 2) := by decide +kernel
theorem dX9_split_105 : decode cX9_split 105 = .ok (.ifCond .ne 7, 3) := by decide +kernel
theorem dX9_split_108 : decode cX9_split 108 = .ok (.iconst 0, 1) := by decide +kernel
theorem dX9_split_109 : decode cX9_split 109 = .ok (.goto 15, 3) := by decide +kernel
theorem dX9_split_112 : decode cX9_split 112 = .ok (.iload 5, 2) := by decide +kernel
theorem dX9_split_114 : decode cX9_split 114 = .ok (.aload_n 0, 1) := by decide +kernel
theorem dX9_split_115 : decode cX9_split 115 = .ok (.iload 6, 2) := by decide +kernel
theorem dX9_split_117 : decode cX9_split 117 = .ok (.invokevirtual 91, 3) := by decide +kernel
theorem dX9_split_120 : decode cX9_split 120 = .ok (.imul, 1) := by decide +kernel
theorem dX9_split_121 : decode cX9_split 121 = .ok (.iload 4, 2) := by decide +kernel
theorem dX9_split_123 : decode cX9_split 123 = .ok (.idiv, 1) := by decide +kernel
theorem dX9_split_124 : decode cX9_split 124 = .ok (.istore 7, 2) := by decide +kernel
theorem dX9_split_126 : decode cX9_split 126 = .ok (.iload 7, 2) := by decide +kernel
theorem dX9_split_128 : decode cX9_split 128 = .ok (.aload_n 0, 1) := by decide +kernel
theorem dX9_split_129 : decode cX9_split 129 = .ok (.getfield 25, 3) := by decide +kernel
theorem dX9_split_132 : decode cX9_split 132 = .ok (.iload 6, 2) := by decide +kernel
theorem dX9_split_134 : decode cX9_split 134 = .ok (.iaload, 1) := by decide +kernel
theorem dX9_split_135 : decode cX9_split 135 = .ok (.aload_n 0, 1) := by decide +kernel
theorem dX9_split_136 : decode cX9_split 136 = .ok (.getfield 28, 3) := by decide +kernel
theorem dX9_split_139 : decode cX9_split 139 = .ok (.iload 6, 2) := by decide +kernel
theorem dX9_split_141 : decode cX9_split 141 = .ok (.iaload, 1) := by decide +kernel
theorem dX9_split_142 : decode cX9_split 142 = .ok (.isub, 1) := by decide +kernel
theorem dX9_split_143 : decode cX9_split 143 = .ok (.if_icmp .ge 8, 3) := by decide +kernel
theorem dX9_split_146 : decode cX9_split 146 = .ok (.iload 7, 2) := by decide +kernel
theorem dX9_split_148 : decode cX9_split 148 = .ok (.goto 18, 3) := by decide +kernel
theorem dX9_split_151 : decode cX9_split 151 = .ok (.aload_n 0, 1) := by decide +kernel
theorem dX9_split_152 : decode cX9_split 152 = .ok (.getfield 25, 3) := by decide +kernel
theorem dX9_split_155 : decode cX9_split 155 = .ok (.iload 6, 2) := by decide +kernel
theorem dX9_split_157 : decode cX9_split 157 = .ok (.iaload, 1) := by decide +kernel
theorem dX9_split_158 : decode cX9_split 158 = .ok (.aload_n 0, 1) := by decide +kernel
theorem dX9_split_159 : decode cX9_split 159 = .ok (.getfield 28, 3) := by decide +kernel
theorem dX9_split_162 : decode cX9_split 162 = .ok (.iload 6, 2) := by decide +kernel
theorem dX9_split_164 : decode cX9_split 164 = .ok (.iaload, 1) := by decide +kernel
theorem dX9_split_165 : decode cX9_split 165 = .ok (.isub, 1) := by decide +kernel
theorem dX9_split_166 : decode cX9_split 166 = .ok (.istore 7, 2) := by decide +kernel
theorem dX9_split_168 : decode cX9_split 168 = .ok (.iload_n 3, 1) := by decide +kernel
theorem dX9_split_169 : decode cX9_split 169 = .ok (.bipush (-5), 2) := by decide +kernel
theorem dX9_split_171 : decode cX9_split 171 = .ok (.if_icmp .ne 8, 3) := by decide +kernel
theorem dX9_split_174 : decode cX9_split 174 = .ok (.iload 6, 2) := by decide +kernel
theorem dX9_split_176 : decode cX9_split 176 = .ok (.goto 4, 3) := by decide +kernel
theorem dX9_split_179 : decode cX9_split 179 = .ok (.iload_n 3, 1) := by decide +kernel
theorem dX9_split_180 : decode cX9_split 180 = .ok (.istore_n 3, 1) := by decide +kernel
theorem dX9_split_181 : decode cX9_split 181 = .ok (.aload_n 0, 1) := by decide +kernel
theorem dX9_split_182 : decode cX9_split 182 = .ok (.getfield 28, 3) := by decide +kernel
theorem dX9_split_185 : decode cX9_split 185 = .ok (.iload 6, 2) := by decide +kernel
theorem dX9_split_187 : decode cX9_split 187 = .ok (.dup2, 1) := by decide +kernel
theorem dX9_split_188 : decode cX9_split 188 = .ok (.iaload, 1) := by decide +kernel
theorem dX9_split_189 : decode cX9_split 189 = .ok (.iload 7, 2) := by decide +kernel
theorem dX9_split_191 : decode cX9_split 191 = .ok (.iadd, 1) := by decide +kernel
theorem dX9_split_192 : decode cX9_split 192 = .ok (.iastore, 1) := by decide +kernel
theorem dX9_split_193 : decode cX9_split 193 = .ok (.iload_n 2, 1) := by decide +kernel
theorem dX9_split_194 : decode cX9_split 194 = .ok (.iload 7, 2) := by decide +kernel
theorem dX9_split_196 : decode cX9_split 196 = .ok (.isub, 1) := by decide +kernel
theorem dX9_split_197 : decode cX9_split 197 = .ok (.istore_n 2, 1) := by decide +kernel
theorem dX9_split_198 : decode cX9_split 198 = .ok (.iinc 6 1, 3) := by decide +kernel
theorem dX9_split_201 : decode cX9_split 201 = .ok (.goto (-126), 3) := by decide +kernel
theorem dX9_split_204 : decode cX9_split 204 = .ok (.iload_n 3, 1) := by decide +kernel
theorem dX9_split_205 : decode cX9_split 205 = .ok (.bipush (-5), 2) := by decide +kernel
theorem dX9_split_207 : decode cX9_split 207 = .ok (.if_icmp .eq 22, 3) := by decide +kernel
theorem dX9_split_210 : decode cX9_split 210 = .ok (.iload_n 2, 1) := by decide +kernel
theorem dX9_split_211 : decode cX9_split 211 = .ok (.iload 5, 2) := by decide +kernel
theorem dX9_split_213 : decode cX9_split 213 = .ok (.if_icmp .ne 16, 3) := by decide +kernel
theorem dX9_split_216 : decode cX9_split 216 = .ok (.aload_n 0, 1) := by decide +kernel
theorem dX9_split_217 : decode cX9_split 217 = .ok (.getfield 28, 3) := by decide +kernel
theorem dX9_split_220 : decode cX9_split 220 = .ok (.iload_n 3, 1) := by decide +kernel
theorem dX9_split_221 : decode cX9_split 221 = .ok (.dup2, 1) := by decide +kernel
theorem dX9_split_222 : decode cX9_split 222 = .ok (.iaload, 1) := by decide +kernel
theorem dX9_split_223 : decode cX9_split 223 = .ok (.iconst 1, 1) := by decide +kernel
theorem dX9_split_224 : decode cX9_split 224 = .ok (.iadd, 1) := by decide +kernel
theorem dX9_split_225 : decode cX9_split 225 = .ok (.iastore, 1) := by decide +kernel
theorem dX9_split_226 : decode cX9_split 226 = .ok (.iinc 2 (-1), 3) := by decide +kernel
theorem dX9_split_229 : decode cX9_split 229 = .ok (.goto (-179), 3) := by decide +kernel
theorem dX9_split_232 : decode cX9_split 232 = .ok (.iload_n 1, 1) := by decide +kernel
theorem dX9_split_233 : decode cX9_split 233 = .ok (.iload_n 2, 1) := by decide +kernel
theorem dX9_split_234 : decode cX9_split 234 = .ok (.isub, 1) := by decide +kernel
theorem dX9_split_235 : decode cX9_split 235 = .ok (.ireturn, 1) := by decide +kernel
theorem dX9_heatNow_0 : decode cX9_heatNow 0 = .ok (.aload_n 0, 1) := by decide +kernel
theorem dX9_heatNow_1 : decode cX9_heatNow 1 = .ok (.getfield 7, 3) := by decide +kernel
theorem dX9_heatNow_4 : decode cX9_heatNow 4 = .ok (.iconst 5, 1) := by decide +kernel
theorem dX9_heatNow_5 : decode cX9_heatNow 5 = .ok (.iaload, 1) := by decide +kernel
theorem dX9_heatNow_6 : decode cX9_heatNow 6 = .ok (.aload_n 0, 1) := by decide +kernel
theorem dX9_heatNow_7 : decode cX9_heatNow 7 = .ok (.getfield 7, 3) := by decide +kernel
theorem dX9_heatNow_10 : decode cX9_heatNow 10 = .ok (.bipush 7, 2) := by decide +kernel
theorem dX9_heatNow_12 : decode cX9_heatNow 12 = .ok (.iaload, 1) := by decide +kernel
theorem dX9_heatNow_13 : decode cX9_heatNow 13 = .ok (.if_icmp .ge 12, 3) := by decide +kernel
theorem dX9_heatNow_16 : decode cX9_heatNow 16 = .ok (.aload_n 0, 1) := by decide +kernel
theorem dX9_heatNow_17 : decode cX9_heatNow 17 = .ok (.getfield 7, 3) := by decide +kernel
theorem dX9_heatNow_20 : decode cX9_heatNow 20 = .ok (.iconst 5, 1) := by decide +kernel
theorem dX9_heatNow_21 : decode cX9_heatNow 21 = .ok (.iaload, 1) := by decide +kernel
theorem dX9_heatNow_22 : decode cX9_heatNow 22 = .ok (.goto 10, 3) := by decide +kernel
theorem dX9_heatNow_25 : decode cX9_heatNow 25 = .ok (.aload_n 0, 1) := by decide +kernel
theorem dX9_heatNow_26 : decode cX9_heatNow 26 = .ok (.getfield 7, 3) := by decide +kernel
theorem dX9_heatNow_29 : decode cX9_heatNow 29 = .ok (.bipush 7, 2) := by decide +kernel
theorem dX9_heatNow_31 : decode cX9_heatNow 31 = .ok (.iaload, 1) := by decide +kernel
theorem dX9_heatNow_32 : decode cX9_heatNow 32 = .ok (.ireturn, 1) := by decide +kernel
theorem dX9_fillStore_0 : decode cX9_fillStore 0 = .ok (.aload_n 0, 1) := by decide +kernel
theorem dX9_fillStore_1 : decode cX9_fillStore 1 = .ok (.getfield 7, 3) := by decide +kernel
theorem dX9_fillStore_4 : decode cX9_fillStore 4 = .ok (.bipush 7, 2) := by decide +kernel
theorem dX9_fillStore_6 : decode cX9_fillStore 6 = .ok (.iaload, 1) := by decide +kernel
theorem dX9_fillStore_7 : decode cX9_fillStore 7 = .ok (.istore_n 1, 1) := by decide +kernel
theorem dX9_fillStore_8 : decode cX9_fillStore 8 = .ok (.aload_n 0, 1) := by decide +kernel
theorem dX9_fillStore_9 : decode cX9_fillStore 9 = .ok (.getfield 7, 3) := by decide +kernel
theorem dX9_fillStore_12 : decode cX9_fillStore 12 = .ok (.bipush 7, 2) := by decide +kernel
theorem dX9_fillStore_14 : decode cX9_fillStore 14 = .ok (.iload_n 1, 1) := by decide +kernel
theorem dX9_fillStore_15 : decode cX9_fillStore 15 = .ok (.aload_n 0, 1) := by decide +kernel
theorem dX9_fillStore_16 : decode cX9_fillStore 16 = .ok (.getfield 7, 3) := by decide +kernel
theorem dX9_fillStore_19 : decode cX9_fillStore 19 = .ok (.iconst 4, 1) := by decide +kernel
theorem dX9_fillStore_20 : decode cX9_fillStore 20 = .ok (.iaload, 1) := by decide +kernel
theorem dX9_fillStore_21 : decode cX9_fillStore 21 = .ok (.iadd, 1) := by decide +kernel
theorem dX9_fillStore_22 : decode cX9_fillStore 22 = .ok (.aload_n 0, 1) := by decide +kernel
theorem dX9_fillStore_23 : decode cX9_fillStore 23 = .ok (.getfield 7, 3) := by decide +kernel
theorem dX9_fillStore_26 : decode cX9_fillStore 26 = .ok (.iconst 3, 1) := by decide +kernel
theorem dX9_fillStore_27 : decode cX9_fillStore 27 = .ok (.iaload, 1) := by decide +kernel
theorem dX9_fillStore_28 : decode cX9_fillStore 28 = .ok (.if_icmp .ge 14, 3) := by decide +kernel
theorem dX9_fillStore_31 : decode cX9_fillStore 31 = .ok (.iload_n 1, 1) := by decide +kernel
theorem dX9_fillStore_32 : decode cX9_fillStore 32 = .ok (.aload_n 0, 1) := by decide +kernel
theorem dX9_fillStore_33 : decode cX9_fillStore 33 = .ok (.getfield 7, 3) := by decide +kernel
theorem dX9_fillStore_36 : decode cX9_fillStore 36 = .ok (.iconst 4, 1) := by decide +kernel
theorem dX9_fillStore_37 : decode cX9_fillStore 37 = .ok (.iaload, 1) := by decide +kernel
theorem dX9_fillStore_38 : decode cX9_fillStore 38 = .ok (.iadd, 1) := by decide +kernel
theorem dX9_fillStore_39 : decode cX9_fillStore 39 = .ok (.goto 9, 3) := by decide +kernel
theorem dX9_fillStore_42 : decode cX9_fillStore 42 = .ok (.aload_n 0, 1) := by decide +kernel
theorem dX9_fillStore_43 : decode cX9_fillStore 43 = .ok (.getfield 7, 3) := by decide +kernel
theorem dX9_fillStore_46 : decode cX9_fillStore 46 = .ok (.iconst 3, 1) := by decide +kernel
theorem dX9_fillStore_47 : decode cX9_fillStore 47 = .ok (.iaload, 1) := by decide +kernel
theorem dX9_fillStore_48 : decode cX9_fillStore 48 = .ok (.iastore, 1) := by decide +kernel
theorem dX9_fillStore_49 : decode cX9_fillStore 49 = .ok (.aload_n 0, 1) := by decide +kernel
theorem dX9_fillStore_50 : decode cX9_fillStore 50 = .ok (.getfield 7, 3) := by decide +kernel
theorem dX9_fillStore_53 : decode cX9_fillStore 53 = .ok (.bipush 13, 2) := by decide +kernel
theorem dX9_fillStore_55 : decode cX9_fillStore 55 = .ok (.dup2, 1) := by decide +kernel
theorem dX9_fillStore_56 : decode cX9_fillStore 56 = .ok (.iaload, 1) := by decide +kernel
theorem dX9_fillStore_57 : decode cX9_fillStore 57 = .ok (.aload_n 0, 1) := by decide +kernel
theorem dX9_fillStore_58 : decode cX9_fillStore 58 = .ok (.getfield 7, 3) := by decide +kernel
theorem dX9_fillStore_61 : decode cX9_fillStore 61 = .ok (.bipush 7, 2) := by decide +kernel
theorem dX9_fillStore_63 : decode cX9_fillStore 63 = .ok (.iaload, 1) := by decide +kernel
theorem dX9_fillStore_64 : decode cX9_fillStore 64 = .ok (.iload_n 1, 1) := by decide +kernel
theorem dX9_fillStore_65 : decode cX9_fillStore 65 = .ok (.isub, 1) := by decide +kernel
theorem dX9_fillStore_66 : decode cX9_fillStore 66 = .ok (.iadd, 1) := by decide +kernel
theorem dX9_fillStore_67 : decode cX9_fillStore 67 = .ok (.iastore, 1) := by decide +kernel
theorem dX9_fillStore_68 : decode cX9_fillStore 68 = .ok (.return_, 1) := by decide +kernel
theorem dX9_beginPhase_0 : decode cX9_beginPhase 0 = .ok (.aload_n 0, 1) := by decide +kernel
theorem dX9_beginPhase_1 : decode cX9_beginPhase 1 = .ok (.iload_n 1, 1) := by decide +kernel
theorem dX9_beginPhase_2 : decode cX9_beginPhase 2 = .ok (.bipush 10, 2) := by decide +kernel
theorem dX9_beginPhase_4 : decode cX9_beginPhase 4 = .ok (.iload_n 2, 1) := by decide +kernel
theorem dX9_beginPhase_5 : decode cX9_beginPhase 5 = .ok (.invokevirtual 63, 3) := by decide +kernel
theorem dX9_beginPhase_8 : decode cX9_beginPhase 8 = .ok (.aload_n 0, 1) := by decide +kernel
theorem dX9_beginPhase_9 : decode cX9_beginPhase 9 = .ok (.iload_n 1, 1) := by decide +kernel
theorem dX9_beginPhase_10 : decode cX9_beginPhase 10 = .ok (.bipush 14, 2) := by decide +kernel
theorem dX9_beginPhase_12 : decode cX9_beginPhase 12 = .ok (.iconst 0, 1) := by decide +kernel
theorem dX9_beginPhase_13 : decode cX9_beginPhase 13 = .ok (.invokevirtual 63, 3) := by decide +kernel
theorem dX9_beginPhase_16 : decode cX9_beginPhase 16 = .ok (.aload_n 0, 1) := by decide +kernel
theorem dX9_beginPhase_17 : decode cX9_beginPhase 17 = .ok (.iload_n 1, 1) := by decide +kernel
theorem dX9_beginPhase_18 : decode cX9_beginPhase 18 = .ok (.bipush 16, 2) := by decide +kernel
theorem dX9_beginPhase_20 : decode cX9_beginPhase 20 = .ok (.iconst 0, 1) := by decide +kernel
theorem dX9_beginPhase_21 : decode cX9_beginPhase 21 = .ok (.invokevirtual 63, 3) := by decide +kernel
theorem dX9_beginPhase_24 : decode cX9_beginPhase 24 = .ok (.return_, 1) := by decide +kernel
theorem dX9_fills_0 : decode cX9_fills 0 = .ok (.aload_n 0, 1) := by decide +kernel
theorem dX9_fills_1 : decode cX9_fills 1 = .ok (.iload_n 1, 1) := by decide +kernel
theorem dX9_fills_2 : decode cX9_fills 2 = .ok (.invokevirtual 88, 3) := by decide +kernel
theorem dX9_fills_5 : decode cX9_fills 5 = .ok (.aload_n 0, 1) := by decide +kernel
theorem dX9_fills_6 : decode cX9_fills 6 = .ok (.iload_n 1, 1) := by decide +kernel
theorem dX9_fills_7 : decode cX9_fills 7 = .ok (.bipush 16, 2) := by decide +kernel
theorem dX9_fills_9 : decode cX9_fills 9 = .ok (.invokevirtual 49, 3) := by decide +kernel
theorem dX9_fills_12 : decode cX9_fills 12 = .ok (.isub, 1) := by decide +kernel
theorem dX9_fills_13 : decode cX9_fills 13 = .ok (.istore_n 2, 1) := by decide +kernel
theorem dX9_fills_14 : decode cX9_fills 14 = .ok (.iload_n 2, 1) := by decide +kernel
theorem dX9_fills_15 : decode cX9_fills 15 = .ok (.bipush 6, 2) := by decide +kernel
theorem dX9_fills_17 : decode cX9_fills 17 = .ok (.if_icmp .ge 7, 3) := by decide +kernel
theorem dX9_fills_20 : decode cX9_fills 20 = .ok (.iload_n 2, 1) := by decide +kernel
theorem dX9_fills_21 : decode cX9_fills 21 = .ok (.goto 5, 3) := by decide +kernel
theorem dX9_fills_24 : decode cX9_fills 24 = .ok (.bipush 6, 2) := by decide +kernel
theorem dX9_fills_26 : decode cX9_fills 26 = .ok (.istore_n 3, 1) := by decide +kernel
theorem dX9_fills_27 : decode cX9_fills 27 = .ok (.aload_n 0, 1) := by decide +kernel
theorem dX9_fills_28 : decode cX9_fills 28 = .ok (.iload_n 1, 1) := by decide +kernel
theorem dX9_fills_29 : decode cX9_fills 29 = .ok (.bipush 16, 2) := by decide +kernel
theorem dX9_fills_31 : decode cX9_fills 31 = .ok (.iload_n 3, 1) := by decide +kernel
theorem dX9_fills_32 : decode cX9_fills 32 = .ok (.invokevirtual 101, 3) := by decide +kernel
theorem dX9_fills_35 : decode cX9_fills 35 = .ok (.aload_n 0, 1) := by decide +kernel
theorem dX9_fills_36 : decode cX9_fills 36 = .ok (.iload_n 1, 1) := by decide +kernel
theorem dX9_fills_37 : decode cX9_fills 37 = .ok (.bipush 17, 2) := by decide +kernel
theorem dX9_fills_39 : decode cX9_fills 39 = .ok (.iload_n 3, 1) := by decide +kernel
theorem dX9_fills_40 : decode cX9_fills 40 = .ok (.invokevirtual 101, 3) := by decide +kernel
theorem dX9_fills_43 : decode cX9_fills 43 = .ok (.aload_n 0, 1) := by decide +kernel
theorem dX9_fills_44 : decode cX9_fills 44 = .ok (.iload_n 1, 1) := by decide +kernel
theorem dX9_fills_45 : decode cX9_fills 45 = .ok (.bipush 11, 2) := by decide +kernel
theorem dX9_fills_47 : decode cX9_fills 47 = .ok (.iload_n 3, 1) := by decide +kernel
theorem dX9_fills_48 : decode cX9_fills 48 = .ok (.invokevirtual 101, 3) := by decide +kernel
theorem dX9_fills_51 : decode cX9_fills 51 = .ok (.aload_n 0, 1) := by decide +kernel
theorem dX9_fills_52 : decode cX9_fills 52 = .ok (.iload_n 1, 1) := by decide +kernel
theorem dX9_fills_53 : decode cX9_fills 53 = .ok (.bipush 12, 2) := by decide +kernel
theorem dX9_fills_55 : decode cX9_fills 55 = .ok (.bipush 60, 2) := by decide +kernel
theorem dX9_fills_57 : decode cX9_fills 57 = .ok (.iload_n 3, 1) := by decide +kernel
theorem dX9_fills_58 : decode cX9_fills 58 = .ok (.imul, 1) := by decide +kernel
theorem dX9_fills_59 : decode cX9_fills 59 = .ok (.invokevirtual 101, 3) := by decide +kernel
theorem dX9_fills_62 : decode cX9_fills 62 = .ok (.return_, 1) := by decide +kernel
theorem dX9_drains_0 : decode cX9_drains 0 = .ok (.aload_n 0, 1) := by decide +kernel
theorem dX9_drains_1 : decode cX9_drains 1 = .ok (.iload_n 1, 1) := by decide +kernel
theorem dX9_drains_2 : decode cX9_drains 2 = .ok (.bipush 11, 2) := by decide +kernel
theorem dX9_drains_4 : decode cX9_drains 4 = .ok (.invokevirtual 49, 3) := by decide +kernel
theorem dX9_drains_7 : decode cX9_drains 7 = .ok (.istore_n 2, 1) := by decide +kernel
theorem dX9_drains_8 : decode cX9_drains 8 = .ok (.iload_n 2, 1) := by decide +kernel
theorem dX9_drains_9 : decode cX9_drains 9 = .ok (.bipush 12, 2) := by decide +kernel
theorem dX9_drains_11 : decode cX9_drains 11 = .ok (.if_icmp .ge 7, 3) := by decide +kernel
theorem dX9_drains_14 : decode cX9_drains 14 = .ok (.iconst 0, 1) := by decide +kernel
theorem dX9_drains_15 : decode cX9_drains 15 = .ok (.goto 7, 3) := by decide +kernel
theorem dX9_drains_18 : decode cX9_drains 18 = .ok (.iload_n 2, 1) := by decide +kernel
theorem dX9_drains_19 : decode cX9_drains 19 = .ok (.bipush 12, 2) := by decide +kernel
theorem dX9_drains_21 : decode cX9_drains 21 = .ok (.isub, 1) := by decide +kernel
theorem dX9_drains_22 : decode cX9_drains 22 = .ok (.istore_n 3, 1) := by decide +kernel
theorem dX9_drains_23 : decode cX9_drains 23 = .ok (.aload_n 0, 1) := by decide +kernel
theorem dX9_drains_24 : decode cX9_drains 24 = .ok (.iload_n 1, 1) := by decide +kernel
theorem dX9_drains_25 : decode cX9_drains 25 = .ok (.bipush 11, 2) := by decide +kernel
theorem dX9_drains_27 : decode cX9_drains 27 = .ok (.iload_n 3, 1) := by decide +kernel
theorem dX9_drains_28 : decode cX9_drains 28 = .ok (.invokevirtual 63, 3) := by decide +kernel
theorem dX9_drains_31 : decode cX9_drains 31 = .ok (.aload_n 0, 1) := by decide +kernel
theorem dX9_drains_32 : decode cX9_drains 32 = .ok (.iload_n 1, 1) := by decide +kernel
theorem dX9_drains_33 : decode cX9_drains 33 = .ok (.bipush 12, 2) := by decide +kernel
theorem dX9_drains_35 : decode cX9_drains 35 = .ok (.iload_n 2, 1) := by decide +kernel
theorem dX9_drains_36 : decode cX9_drains 36 = .ok (.ifCond .ne 7, 3) := by decide +kernel
theorem dX9_drains_39 : decode cX9_drains 39 = .ok (.iconst 0, 1) := by decide +kernel
theorem dX9_drains_40 : decode cX9_drains 40 = .ok (.goto 18, 3) := by decide +kernel
theorem dX9_drains_43 : decode cX9_drains 43 = .ok (.aload_n 0, 1) := by decide +kernel
theorem dX9_drains_44 : decode cX9_drains 44 = .ok (.iload_n 1, 1) := by decide +kernel
theorem dX9_drains_45 : decode cX9_drains 45 = .ok (.bipush 12, 2) := by decide +kernel
theorem dX9_drains_47 : decode cX9_drains 47 = .ok (.invokevirtual 49, 3) := by decide +kernel
theorem dX9_drains_50 : decode cX9_drains 50 = .ok (.i2l, 1) := by decide +kernel
theorem dX9_drains_51 : decode cX9_drains 51 = .ok (.iload_n 3, 1) := by decide +kernel
theorem dX9_drains_52 : decode cX9_drains 52 = .ok (.i2l, 1) := by decide +kernel
theorem dX9_drains_53 : decode cX9_drains 53 = .ok (.lmul, 1) := by decide +kernel
theorem dX9_drains_54 : decode cX9_drains 54 = .ok (.iload_n 2, 1) := by decide +kernel
theorem dX9_drains_55 : decode cX9_drains 55 = .ok (.i2l, 1) := by decide +kernel
theorem dX9_drains_56 : decode cX9_drains 56 = .ok (.ldiv, 1) := by decide +kernel
theorem dX9_drains_57 : decode cX9_drains 57 = .ok (.l2i, 1) := by decide +kernel
theorem dX9_drains_58 : decode cX9_drains 58 = .ok (.invokevirtual 63, 3) := by decide +kernel
theorem dX9_drains_61 : decode cX9_drains 61 = .ok (.return_, 1) := by decide +kernel
theorem dX9_isOver_0 : decode cX9_isOver 0 = .ok (.aload_n 0, 1) := by decide +kernel
theorem dX9_isOver_1 : decode cX9_isOver 1 = .ok (.iload_n 1, 1) := by decide +kernel
theorem dX9_isOver_2 : decode cX9_isOver 2 = .ok (.invokevirtual 82, 3) := by decide +kernel
theorem dX9_isOver_5 : decode cX9_isOver 5 = .ok (.tableswitch 91 100 104 #[75, 91, 35, 91, 56], 35) := by decide +kernel
theorem dX9_isOver_40 : decode cX9_isOver 40 = .ok (.aload_n 0, 1) := by decide +kernel
theorem dX9_isOver_41 : decode cX9_isOver 41 = .ok (.iload_n 1, 1) := by decide +kernel
theorem dX9_isOver_42 : decode cX9_isOver 42 = .ok (.bipush 16, 2) := by decide +kernel
theorem dX9_isOver_44 : decode cX9_isOver 44 = .ok (.invokevirtual 49, 3) := by decide +kernel
theorem dX9_isOver_47 : decode cX9_isOver 47 = .ok (.aload_n 0, 1) := by decide +kernel
theorem dX9_isOver_48 : decode cX9_isOver 48 = .ok (.iload_n 1, 1) := by decide +kernel
theorem dX9_isOver_49 : decode cX9_isOver 49 = .ok (.invokevirtual 88, 3) := by decide +kernel
theorem dX9_isOver_52 : decode cX9_isOver 52 = .ok (.if_icmp .ne 7, 3) := by decide +kernel
theorem dX9_isOver_55 : decode cX9_isOver 55 = .ok (.iconst 1, 1) := by decide +kernel
theorem dX9_isOver_56 : decode cX9_isOver 56 = .ok (.goto 4, 3) := by decide +kernel
theorem dX9_isOver_59 : decode cX9_isOver 59 = .ok (.iconst 0, 1) := by decide +kernel
theorem dX9_isOver_60 : decode cX9_isOver 60 = .ok (.ireturn, 1) := by decide +kernel
theorem dX9_isOver_61 : decode cX9_isOver 61 = .ok (.aload_n 0, 1) := by decide +kernel
theorem dX9_isOver_62 : decode cX9_isOver 62 = .ok (.iload_n 1, 1) := by decide +kernel
theorem dX9_isOver_63 : decode cX9_isOver 63 = .ok (.invokevirtual 68, 3) := by decide +kernel
theorem dX9_isOver_66 : decode cX9_isOver 66 = .ok (.aload_n 0, 1) := by decide +kernel
theorem dX9_isOver_67 : decode cX9_isOver 67 = .ok (.iload_n 1, 1) := by decide +kernel
theorem dX9_isOver_68 : decode cX9_isOver 68 = .ok (.invokevirtual 88, 3) := by decide +kernel
theorem dX9_isOver_71 : decode cX9_isOver 71 = .ok (.if_icmp .lt 7, 3) := by decide +kernel
theorem dX9_isOver_74 : decode cX9_isOver 74 = .ok (.iconst 1, 1) := by decide +kernel
theorem dX9_isOver_75 : decode cX9_isOver 75 = .ok (.goto 4, 3) := by decide +kernel
theorem dX9_isOver_78 : decode cX9_isOver 78 = .ok (.iconst 0, 1) := by decide +kernel
theorem dX9_isOver_79 : decode cX9_isOver 79 = .ok (.ireturn, 1) := by decide +kernel
theorem dX9_isOver_80 : decode cX9_isOver 80 = .ok (.aload_n 0, 1) := by decide +kernel
theorem dX9_isOver_81 : decode cX9_isOver 81 = .ok (.iload_n 1, 1) := by decide +kernel
theorem dX9_isOver_82 : decode cX9_isOver 82 = .ok (.bipush 11, 2) := by decide +kernel
theorem dX9_isOver_84 : decode cX9_isOver 84 = .ok (.invokevirtual 49, 3) := by decide +kernel
theorem dX9_isOver_87 : decode cX9_isOver 87 = .ok (.ifCond .ne 7, 3) := by decide +kernel
theorem dX9_isOver_90 : decode cX9_isOver 90 = .ok (.iconst 1, 1) := by decide +kernel
theorem dX9_isOver_91 : decode cX9_isOver 91 = .ok (.goto 4, 3) := by decide +kernel
theorem dX9_isOver_94 : decode cX9_isOver 94 = .ok (.iconst 0, 1) := by decide +kernel
theorem dX9_isOver_95 : decode cX9_isOver 95 = .ok (.ireturn, 1) := by decide +kernel
theorem dX9_isOver_96 : decode cX9_isOver 96 = .ok (.aload_n 0, 1) := by decide +kernel
theorem dX9_isOver_97 : decode cX9_isOver 97 = .ok (.iload_n 1, 1) := by decide +kernel
theorem dX9_isOver_98 : decode cX9_isOver 98 = .ok (.bipush 14, 2) := by decide +kernel
theorem dX9_isOver_100 : decode cX9_isOver 100 = .ok (.invokevirtual 49, 3) := by decide +kernel
theorem dX9_isOver_103 : decode cX9_isOver 103 = .ok (.aload_n 0, 1) := by decide +kernel
theorem dX9_isOver_104 : decode cX9_isOver 104 = .ok (.iload_n 1, 1) := by decide +kernel
theorem dX9_isOver_105 : decode cX9_isOver 105 = .ok (.invokevirtual 88, 3) := by decide +kernel
theorem dX9_isOver_108 : decode cX9_isOver 108 = .ok (.if_icmp .lt 7, 3) := by decide +kernel
theorem dX9_isOver_111 : decode cX9_isOver 111 = .ok (.iconst 1, 1) := by decide +kernel
theorem dX9_isOver_112 : decode cX9_isOver 112 = .ok (.goto 4, 3) := by decide +kernel
theorem dX9_isOver_115 : decode cX9_isOver 115 = .ok (.iconst 0, 1) := by decide +kernel
theorem dX9_isOver_116 : decode cX9_isOver 116 = .ok (.ireturn, 1) := by decide +kernel
theorem dX9_works_0 : decode cX9_works 0 = .ok (.aload_n 0, 1) := by decide +kernel
theorem dX9_works_1 : decode cX9_works 1 = .ok (.iload_n 1, 1) := by decide +kernel
theorem dX9_works_2 : decode cX9_works 2 = .ok (.invokevirtual 82, 3) := by decide +kernel
theorem dX9_works_5 : decode cX9_works 5 = .ok (.istore_n 2, 1) := by decide +kernel
theorem dX9_works_6 : decode cX9_works 6 = .ok (.aload_n 0, 1) := by decide +kernel
theorem dX9_works_7 : decode cX9_works 7 = .ok (.iload_n 1, 1) := by decide +kernel
theorem dX9_works_8 : decode cX9_works 8 = .ok (.bipush 11, 2) := by decide +kernel
theorem dX9_works_10 : decode cX9_works 10 = .ok (.invokevirtual 49, 3) := by decide +kernel
theorem dX9_works_13 : decode cX9_works 13 = .ok (.ifCond .ne 7, 3) := by decide +kernel
theorem dX9_works_16 : decode cX9_works 16 = .ok (.iconst 1, 1) := by decide +kernel
theorem dX9_works_17 : decode cX9_works 17 = .ok (.goto 4, 3) := by decide +kernel
theorem dX9_works_20 : decode cX9_works 20 = .ok (.iconst 0, 1) := by decide +kernel
theorem dX9_works_21 : decode cX9_works 21 = .ok (.istore_n 3, 1) := by decide +kernel
theorem dX9_works_22 : decode cX9_works 22 = .ok (.iload_n 2, 1) := by decide +kernel
theorem dX9_works_23 : decode cX9_works 23 = .ok (.bipush 104, 2) := by decide +kernel
theorem dX9_works_25 : decode cX9_works 25 = .ok (.if_icmp .ne 7, 3) := by decide +kernel
theorem dX9_works_28 : decode cX9_works 28 = .ok (.iload_n 3, 1) := by decide +kernel
theorem dX9_works_29 : decode cX9_works 29 = .ok (.ifCond .ne 13, 3) := by decide +kernel
theorem dX9_works_32 : decode cX9_works 32 = .ok (.iload_n 2, 1) := by decide +kernel
theorem dX9_works_33 : decode cX9_works 33 = .ok (.bipush 115, 2) := by decide +kernel
theorem dX9_works_35 : decode cX9_works 35 = .ok (.if_icmp .ne 16, 3) := by decide +kernel
theorem dX9_works_38 : decode cX9_works 38 = .ok (.iload_n 3, 1) := by decide +kernel
theorem dX9_works_39 : decode cX9_works 39 = .ok (.ifCond .ne 12, 3) := by decide +kernel
theorem dX9_works_42 : decode cX9_works 42 = .ok (.aload_n 0, 1) := by decide +kernel
theorem dX9_works_43 : decode cX9_works 43 = .ok (.iload_n 1, 1) := by decide +kernel
theorem dX9_works_44 : decode cX9_works 44 = .ok (.bipush 9, 2) := by decide +kernel
theorem dX9_works_46 : decode cX9_works 46 = .ok (.iconst 2, 1) := by decide +kernel
theorem dX9_works_47 : decode cX9_works 47 = .ok (.invokevirtual 63, 3) := by decide +kernel
theorem dX9_works_50 : decode cX9_works 50 = .ok (.return_, 1) := by decide +kernel
theorem dX9_works_51 : decode cX9_works 51 = .ok (.iload_n 2, 1) := by decide +kernel
theorem dX9_works_52 : decode cX9_works 52 = .ok (.bipush 102, 2) := by decide +kernel
theorem dX9_works_54 : decode cX9_works 54 = .ok (.if_icmp .ne 11, 3) := by decide +kernel
theorem dX9_works_57 : decode cX9_works 57 = .ok (.aload_n 0, 1) := by decide +kernel
theorem dX9_works_58 : decode cX9_works 58 = .ok (.iload_n 1, 1) := by decide +kernel
theorem dX9_works_59 : decode cX9_works 59 = .ok (.invokevirtual 104, 3) := by decide +kernel
theorem dX9_works_62 : decode cX9_works 62 = .ok (.goto 36, 3) := by decide +kernel
theorem dX9_works_65 : decode cX9_works 65 = .ok (.iload_n 2, 1) := by decide +kernel
theorem dX9_works_66 : decode cX9_works 66 = .ok (.bipush 100, 2) := by decide +kernel
theorem dX9_works_68 : decode cX9_works 68 = .ok (.if_icmp .ne 11, 3) := by decide +kernel
theorem dX9_works_71 : decode cX9_works 71 = .ok (.aload_n 0, 1) := by decide +kernel
theorem dX9_works_72 : decode cX9_works 72 = .ok (.iload_n 1, 1) := by decide +kernel
theorem dX9_works_73 : decode cX9_works 73 = .ok (.invokevirtual 108, 3) := by decide +kernel
theorem dX9_works_76 : decode cX9_works 76 = .ok (.goto 22, 3) := by decide +kernel
theorem dX9_works_79 : decode cX9_works 79 = .ok (.iload_n 2, 1) := by decide +kernel
theorem dX9_works_80 : decode cX9_works 80 = .ok (.bipush 104, 2) := by decide +kernel
theorem dX9_works_82 : decode cX9_works 82 = .ok (.if_icmp .ne 16, 3) := by decide +kernel
theorem dX9_works_85 : decode cX9_works 85 = .ok (.aload_n 0, 1) := by decide +kernel
theorem dX9_works_86 : decode cX9_works 86 = .ok (.iload_n 1, 1) := by decide +kernel
theorem dX9_works_87 : decode cX9_works 87 = .ok (.bipush 12, 2) := by decide +kernel
theorem dX9_works_89 : decode cX9_works 89 = .ok (.aload_n 0, 1) := by decide +kernel
theorem dX9_works_90 : decode cX9_works 90 = .ok (.getfield 28, 3) := by decide +kernel
theorem dX9_works_93 : decode cX9_works 93 = .ok (.iload_n 1, 1) := by decide +kernel
theorem dX9_works_94 : decode cX9_works 94 = .ok (.iaload, 1) := by decide +kernel
theorem dX9_works_95 : decode cX9_works 95 = .ok (.invokevirtual 101, 3) := by decide +kernel
theorem dX9_works_98 : decode cX9_works 98 = .ok (.aload_n 0, 1) := by decide +kernel
theorem dX9_works_99 : decode cX9_works 99 = .ok (.iload_n 1, 1) := by decide +kernel
theorem dX9_works_100 : decode cX9_works 100 = .ok (.bipush 14, 2) := by decide +kernel
theorem dX9_works_102 : decode cX9_works 102 = .ok (.iconst 1, 1) := by decide +kernel
theorem dX9_works_103 : decode cX9_works 103 = .ok (.invokevirtual 101, 3) := by decide +kernel
theorem dX9_works_106 : decode cX9_works 106 = .ok (.aload_n 0, 1) := by decide +kernel
theorem dX9_works_107 : decode cX9_works 107 = .ok (.iload_n 1, 1) := by decide +kernel
theorem dX9_works_108 : decode cX9_works 108 = .ok (.invokevirtual 111, 3) := by decide +kernel
theorem dX9_works_111 : decode cX9_works 111 = .ok (.ifCond .ne 4, 3) := by decide +kernel
theorem dX9_works_114 : decode cX9_works 114 = .ok (.return_, 1) := by decide +kernel
theorem dX9_works_115 : decode cX9_works 115 = .ok (.aload_n 0, 1) := by decide +kernel
theorem dX9_works_116 : decode cX9_works 116 = .ok (.iload_n 1, 1) := by decide +kernel
theorem dX9_works_117 : decode cX9_works 117 = .ok (.bipush 10, 2) := by decide +kernel
theorem dX9_works_119 : decode cX9_works 119 = .ok (.invokevirtual 49, 3) := by decide +kernel
theorem dX9_works_122 : decode cX9_works 122 = .ok (.iconst 1, 1) := by decide +kernel
theorem dX9_works_123 : decode cX9_works 123 = .ok (.iadd, 1) := by decide +kernel
theorem dX9_works_124 : decode cX9_works 124 = .ok (.aload_n 0, 1) := by decide +kernel
theorem dX9_works_125 : decode cX9_works 125 = .ok (.iload_n 1, 1) := by decide +kernel
theorem dX9_works_126 : decode cX9_works 126 = .ok (.bipush 15, 2) := by decide +kernel
theorem dX9_works_128 : decode cX9_works 128 = .ok (.invokevirtual 49, 3) := by decide +kernel
theorem dX9_works_131 : decode cX9_works 131 = .ok (.if_icmp .ge 20, 3) := by decide +kernel
theorem dX9_works_134 : decode cX9_works 134 = .ok (.aload_n 0, 1) := by decide +kernel
theorem dX9_works_135 : decode cX9_works 135 = .ok (.iload_n 1, 1) := by decide +kernel
theorem dX9_works_136 : decode cX9_works 136 = .ok (.aload_n 0, 1) := by decide +kernel
theorem dX9_works_137 : decode cX9_works 137 = .ok (.iload_n 1, 1) := by decide +kernel
theorem dX9_works_138 : decode cX9_works 138 = .ok (.bipush 10, 2) := by decide +kernel
theorem dX9_works_140 : decode cX9_works 140 = .ok (.invokevirtual 49, 3) := by decide +kernel
theorem dX9_works_143 : decode cX9_works 143 = .ok (.iconst 1, 1) := by decide +kernel
theorem dX9_works_144 : decode cX9_works 144 = .ok (.iadd, 1) := by decide +kernel
theorem dX9_works_145 : decode cX9_works 145 = .ok (.invokevirtual 114, 3) := by decide +kernel
theorem dX9_works_148 : decode cX9_works 148 = .ok (.goto 29, 3) := by decide +kernel
theorem dX9_works_151 : decode cX9_works 151 = .ok (.aload_n 0, 1) := by decide +kernel
theorem dX9_works_152 : decode cX9_works 152 = .ok (.iload_n 1, 1) := by decide +kernel
theorem dX9_works_153 : decode cX9_works 153 = .ok (.bipush 9, 2) := by decide +kernel
theorem dX9_works_155 : decode cX9_works 155 = .ok (.iconst 0, 1) := by decide +kernel
theorem dX9_works_156 : decode cX9_works 156 = .ok (.invokevirtual 63, 3) := by decide +kernel
theorem dX9_works_159 : decode cX9_works 159 = .ok (.aload_n 0, 1) := by decide +kernel
theorem dX9_works_160 : decode cX9_works 160 = .ok (.iload_n 1, 1) := by decide +kernel
theorem dX9_works_161 : decode cX9_works 161 = .ok (.iconst 4, 1) := by decide +kernel
theorem dX9_works_162 : decode cX9_works 162 = .ok (.iconst 1, 1) := by decide +kernel
theorem dX9_works_163 : decode cX9_works 163 = .ok (.invokevirtual 101, 3) := by decide +kernel
theorem dX9_works_166 : decode cX9_works 166 = .ok (.aload_n 0, 1) := by decide +kernel
theorem dX9_works_167 : decode cX9_works 167 = .ok (.getfield 7, 3) := by decide +kernel
theorem dX9_works_170 : decode cX9_works 170 = .ok (.bipush 12, 2) := by decide +kernel
theorem dX9_works_172 : decode cX9_works 172 = .ok (.dup2, 1) := by decide +kernel
theorem dX9_works_173 : decode cX9_works 173 = .ok (.iaload, 1) := by decide +kernel
theorem dX9_works_174 : decode cX9_works 174 = .ok (.iconst 1, 1) := by decide +kernel
theorem dX9_works_175 : decode cX9_works 175 = .ok (.iadd, 1) := by decide +kernel
theorem dX9_works_176 : decode cX9_works 176 = .ok (.iastore, 1) := by decide +kernel
theorem dX9_works_177 : decode cX9_works 177 = .ok (.return_, 1) := by decide +kernel
theorem dX9_powered_0 : decode cX9_powered 0 = .ok (.aload_n 0, 1) := by decide +kernel
theorem dX9_powered_1 : decode cX9_powered 1 = .ok (.invokevirtual 118, 3) := by decide +kernel
theorem dX9_powered_4 : decode cX9_powered 4 = .ok (.aload_n 0, 1) := by decide +kernel
theorem dX9_powered_5 : decode cX9_powered 5 = .ok (.aload_n 0, 1) := by decide +kernel
theorem dX9_powered_6 : decode cX9_powered 6 = .ok (.invokevirtual 121, 3) := by decide +kernel
theorem dX9_powered_9 : decode cX9_powered 9 = .ok (.invokevirtual 124, 3) := by decide +kernel
theorem dX9_powered_12 : decode cX9_powered 12 = .ok (.istore_n 1, 1) := by decide +kernel
theorem dX9_powered_13 : decode cX9_powered 13 = .ok (.aload_n 0, 1) := by decide +kernel
theorem dX9_powered_14 : decode cX9_powered 14 = .ok (.getfield 7, 3) := by decide +kernel
theorem dX9_powered_17 : decode cX9_powered 17 = .ok (.bipush 7, 2) := by decide +kernel
theorem dX9_powered_19 : decode cX9_powered 19 = .ok (.dup2, 1) := by decide +kernel
theorem dX9_powered_20 : decode cX9_powered 20 = .ok (.iaload, 1) := by decide +kernel
theorem dX9_powered_21 : decode cX9_powered 21 = .ok (.iload_n 1, 1) := by decide +kernel
theorem dX9_powered_22 : decode cX9_powered 22 = .ok (.isub, 1) := by decide +kernel
theorem dX9_powered_23 : decode cX9_powered 23 = .ok (.iastore, 1) := by decide +kernel
theorem dX9_powered_24 : decode cX9_powered 24 = .ok (.aload_n 0, 1) := by decide +kernel
theorem dX9_powered_25 : decode cX9_powered 25 = .ok (.getfield 7, 3) := by decide +kernel
theorem dX9_powered_28 : decode cX9_powered 28 = .ok (.bipush 14, 2) := by decide +kernel
theorem dX9_powered_30 : decode cX9_powered 30 = .ok (.dup2, 1) := by decide +kernel
theorem dX9_powered_31 : decode cX9_powered 31 = .ok (.iaload, 1) := by decide +kernel
theorem dX9_powered_32 : decode cX9_powered 32 = .ok (.iload_n 1, 1) := by decide +kernel
theorem dX9_powered_33 : decode cX9_powered 33 = .ok (.iadd, 1) := by decide +kernel
theorem dX9_powered_34 : decode cX9_powered 34 = .ok (.iastore, 1) := by decide +kernel
theorem dX9_powered_35 : decode cX9_powered 35 = .ok (.iconst 0, 1) := by decide +kernel
theorem dX9_powered_36 : decode cX9_powered 36 = .ok (.istore_n 2, 1) := by decide +kernel
theorem dX9_powered_37 : decode cX9_powered 37 = .ok (.iload_n 2, 1) := by decide +kernel
