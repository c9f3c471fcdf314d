theorem dX7_copyFrom_41 : decode cX7_copyFrom 41 = .ok (.aload_n 1, 1) := by decide +kernel
theorem dX7_copyFrom_42 : decode cX7_copyFrom 42 = .ok (.getfield 24, 3) := by decide +kernel
theorem dX7_copyFrom_45 : decode cX7_copyFrom 45 = .ok (.putfield 24, 3) := by decide +kernel
theorem dX7_copyFrom_48 : decode cX7_copyFrom 48 = .ok (.aload_n 0, 1) := by decide +kernel
theorem dX7_copyFrom_49 : decode cX7_copyFrom 49 = .ok (.aload_n 1, 1) := by decide +kernel
theorem dX7_copyFrom_50 : decode cX7_copyFrom 50 = .ok (.getfield 27, 3) := by decide +kernel
theorem dX7_copyFrom_53 : decode cX7_copyFrom 53 = .ok (.putfield 27, 3) := by decide +kernel
theorem dX7_copyFrom_56 : decode cX7_copyFrom 56 = .ok (.aload_n 0, 1) := by decide +kernel
theorem dX7_copyFrom_57 : decode cX7_copyFrom 57 = .ok (.aload_n 1, 1) := by decide +kernel
theorem dX7_copyFrom_58 : decode cX7_copyFrom 58 = .ok (.getfield 31, 3) := by decide +kernel
theorem dX7_copyFrom_61 : decode cX7_copyFrom 61 = .ok (.putfield 31, 3) := by decide +kernel
theorem dX7_copyFrom_64 : decode cX7_copyFrom 64 = .ok (.return_, 1) := by decide +kernel
theorem dX7_temperature_0 : decode cX7_temperature 0 = .ok (.aload_n 0, 1) := by decide +kernel
theorem dX7_temperature_1 : decode cX7_temperature 1 = .ok (.getfield 24, 3) := by decide +kernel
theorem dX7_temperature_4 : decode cX7_temperature 4 = .ok (.ifCond .le 21, 3) := by decide +kernel
theorem dX7_temperature_7 : decode cX7_temperature 7 = .ok (.aload_n 0, 1) := by decide +kernel
theorem dX7_temperature_8 : decode cX7_temperature 8 = .ok (.getfield 27, 3) := by decide +kernel
theorem dX7_temperature_11 : decode cX7_temperature 11 = .ok (.ldc2_w 38, 3) := by decide +kernel
theorem dX7_temperature_14 : decode cX7_temperature 14 = .ok (.aload_n 0, 1) := by decide +kernel
theorem dX7_temperature_15 : decode cX7_temperature 15 = .ok (.getfield 24, 3) := by decide +kernel
theorem dX7_temperature_18 : decode cX7_temperature 18 = .ok (.i2l, 1) := by decide +kernel
theorem dX7_temperature_19 : decode cX7_temperature 19 = .ok (.lmul, 1) := by decide +kernel
theorem dX7_temperature_20 : decode cX7_temperature 20 = .ok (.ldiv, 1) := by decide +kernel
theorem dX7_temperature_21 : decode cX7_temperature 21 = .ok (.l2i, 1) := by decide +kernel
theorem dX7_temperature_22 : decode cX7_temperature 22 = .ok (.goto 5, 3) := by decide +kernel
theorem dX7_temperature_25 : decode cX7_temperature 25 = .ok (.bipush 15, 2) := by decide +kernel
theorem dX7_temperature_27 : decode cX7_temperature 27 = .ok (.ireturn, 1) := by decide +kernel
theorem dX7_canStart_0 : decode cX7_canStart 0 = .ok (.aload_n 0, 1) := by decide +kernel
theorem dX7_canStart_1 : decode cX7_canStart 1 = .ok (.getfield 34, 3) := by decide +kernel
theorem dX7_canStart_4 : decode cX7_canStart 4 = .ok (.getfield 40, 3) := by decide +kernel
theorem dX7_canStart_7 : decode cX7_canStart 7 = .ok (.ifCond .le 21, 3) := by decide +kernel
theorem dX7_canStart_10 : decode cX7_canStart 10 = .ok (.aload_n 0, 1) := by decide +kernel
theorem dX7_canStart_11 : decode cX7_canStart 11 = .ok (.getfield 9, 3) := by decide +kernel
theorem dX7_canStart_14 : decode cX7_canStart 14 = .ok (.ifCond .ne 14, 3) := by decide +kernel
theorem dX7_canStart_17 : decode cX7_canStart 17 = .ok (.aload_n 0, 1) := by decide +kernel
theorem dX7_canStart_18 : decode cX7_canStart 18 = .ok (.getfield 15, 3) := by decide +kernel
theorem dX7_canStart_21 : decode cX7_canStart 21 = .ok (.ifCond .eq 7, 3) := by decide +kernel
theorem dX7_canStart_24 : decode cX7_canStart 24 = .ok (.iconst 1, 1) := by decide +kernel
theorem dX7_canStart_25 : decode cX7_canStart 25 = .ok (.goto 4, 3) := by decide +kernel
theorem dX7_canStart_28 : decode cX7_canStart 28 = .ok (.iconst 0, 1) := by decide +kernel
theorem dX7_canStart_29 : decode cX7_canStart 29 = .ok (.ireturn, 1) := by decide +kernel
theorem dX7_begin_0 : decode cX7_begin 0 = .ok (.aload_n 0, 1) := by decide +kernel
theorem dX7_begin_1 : decode cX7_begin 1 = .ok (.iconst 1, 1) := by decide +kernel
theorem dX7_begin_2 : decode cX7_begin 2 = .ok (.putfield 9, 3) := by decide +kernel
theorem dX7_begin_5 : decode cX7_begin 5 = .ok (.aload_n 0, 1) := by decide +kernel
theorem dX7_begin_6 : decode cX7_begin 6 = .ok (.iconst 2, 1) := by decide +kernel
theorem dX7_begin_7 : decode cX7_begin 7 = .ok (.putfield 15, 3) := by decide +kernel
theorem dX7_begin_10 : decode cX7_begin 10 = .ok (.aload_n 0, 1) := by decide +kernel
theorem dX7_begin_11 : decode cX7_begin 11 = .ok (.iconst 0, 1) := by decide +kernel
theorem dX7_begin_12 : decode cX7_begin 12 = .ok (.putfield 18, 3) := by decide +kernel
theorem dX7_begin_15 : decode cX7_begin 15 = .ok (.aload_n 0, 1) := by decide +kernel
theorem dX7_begin_16 : decode cX7_begin 16 = .ok (.iconst 0, 1) := by decide +kernel
theorem dX7_begin_17 : decode cX7_begin 17 = .ok (.putfield 21, 3) := by decide +kernel
theorem dX7_begin_20 : decode cX7_begin 20 = .ok (.return_, 1) := by decide +kernel
theorem dX7_spinAnew_0 : decode cX7_spinAnew 0 = .ok (.aload_n 0, 1) := by decide +kernel
theorem dX7_spinAnew_1 : decode cX7_spinAnew 1 = .ok (.getfield 9, 3) := by decide +kernel
theorem dX7_spinAnew_4 : decode cX7_spinAnew 4 = .ok (.iconst 1, 1) := by decide +kernel
theorem dX7_spinAnew_5 : decode cX7_spinAnew 5 = .ok (.if_icmp .ne 24, 3) := by decide +kernel
theorem dX7_spinAnew_8 : decode cX7_spinAnew 8 = .ok (.aload_n 0, 1) := by decide +kernel
theorem dX7_spinAnew_9 : decode cX7_spinAnew 9 = .ok (.getfield 34, 3) := by decide +kernel
theorem dX7_spinAnew_12 : decode cX7_spinAnew 12 = .ok (.aload_n 0, 1) := by decide +kernel
theorem dX7_spinAnew_13 : decode cX7_spinAnew 13 = .ok (.getfield 18, 3) := by decide +kernel
theorem dX7_spinAnew_16 : decode cX7_spinAnew 16 = .ok (.invokevirtual 45, 3) := by decide +kernel
theorem dX7_spinAnew_19 : decode cX7_spinAnew 19 = .ok (.bipush 115, 2) := by decide +kernel
theorem dX7_spinAnew_21 : decode cX7_spinAnew 21 = .ok (.if_icmp .ne 8, 3) := by decide +kernel
theorem dX7_spinAnew_24 : decode cX7_spinAnew 24 = .ok (.aload_n 0, 1) := by decide +kernel
theorem dX7_spinAnew_25 : decode cX7_spinAnew 25 = .ok (.iconst 0, 1) := by decide +kernel
theorem dX7_spinAnew_26 : decode cX7_spinAnew 26 = .ok (.putfield 21, 3) := by decide +kernel
theorem dX7_spinAnew_29 : decode cX7_spinAnew 29 = .ok (.return_, 1) := by decide +kernel
theorem dX7_wantedHeat_0 : decode cX7_wantedHeat 0 = .ok (.aload_n 0, 1) := by decide +kernel
theorem dX7_wantedHeat_1 : decode cX7_wantedHeat 1 = .ok (.getfield 9, 3) := by decide +kernel
theorem dX7_wantedHeat_4 : decode cX7_wantedHeat 4 = .ok (.iconst 1, 1) := by decide +kernel
theorem dX7_wantedHeat_5 : decode cX7_wantedHeat 5 = .ok (.if_icmp .ne 19, 3) := by decide +kernel
theorem dX7_wantedHeat_8 : decode cX7_wantedHeat 8 = .ok (.aload_n 0, 1) := by decide +kernel
theorem dX7_wantedHeat_9 : decode cX7_wantedHeat 9 = .ok (.getfield 34, 3) := by decide +kernel
theorem dX7_wantedHeat_12 : decode cX7_wantedHeat 12 = .ok (.aload_n 0, 1) := by decide +kernel
theorem dX7_wantedHeat_13 : decode cX7_wantedHeat 13 = .ok (.getfield 18, 3) := by decide +kernel
theorem dX7_wantedHeat_16 : decode cX7_wantedHeat 16 = .ok (.invokevirtual 45, 3) := by decide +kernel
theorem dX7_wantedHeat_19 : decode cX7_wantedHeat 19 = .ok (.bipush 104, 2) := by decide +kernel
theorem dX7_wantedHeat_21 : decode cX7_wantedHeat 21 = .ok (.if_icmp .eq 5, 3) := by decide +kernel
theorem dX7_wantedHeat_24 : decode cX7_wantedHeat 24 = .ok (.iconst 0, 1) := by decide +kernel
theorem dX7_wantedHeat_25 : decode cX7_wantedHeat 25 = .ok (.ireturn, 1) := by decide +kernel
theorem dX7_wantedHeat_26 : decode cX7_wantedHeat 26 = .ok (.ldc2_w 38, 3) := by decide +kernel
theorem dX7_wantedHeat_29 : decode cX7_wantedHeat 29 = .ok (.aload_n 0, 1) := by decide +kernel
theorem dX7_wantedHeat_30 : decode cX7_wantedHeat 30 = .ok (.getfield 24, 3) := by decide +kernel
theorem dX7_wantedHeat_33 : decode cX7_wantedHeat 33 = .ok (.i2l, 1) := by decide +kernel
theorem dX7_wantedHeat_34 : decode cX7_wantedHeat 34 = .ok (.lmul, 1) := by decide +kernel
theorem dX7_wantedHeat_35 : decode cX7_wantedHeat 35 = .ok (.aload_n 0, 1) := by decide +kernel
theorem dX7_wantedHeat_36 : decode cX7_wantedHeat 36 = .ok (.getfield 34, 3) := by decide +kernel
theorem dX7_wantedHeat_39 : decode cX7_wantedHeat 39 = .ok (.aload_n 0, 1) := by decide +kernel
theorem dX7_wantedHeat_40 : decode cX7_wantedHeat 40 = .ok (.getfield 18, 3) := by decide +kernel
theorem dX7_wantedHeat_43 : decode cX7_wantedHeat 43 = .ok (.invokevirtual 49, 3) := by decide +kernel
theorem dX7_wantedHeat_46 : decode cX7_wantedHeat 46 = .ok (.i2l, 1) := by decide +kernel
theorem dX7_wantedHeat_47 : decode cX7_wantedHeat 47 = .ok (.lmul, 1) := by decide +kernel
theorem dX7_wantedHeat_48 : decode cX7_wantedHeat 48 = .ok (.aload_n 0, 1) := by decide +kernel
theorem dX7_wantedHeat_49 : decode cX7_wantedHeat 49 = .ok (.getfield 27, 3) := by decide +kernel
theorem dX7_wantedHeat_52 : decode cX7_wantedHeat 52 = .ok (.lsub, 1) := by decide +kernel
theorem dX7_wantedHeat_53 : decode cX7_wantedHeat 53 = .ok (.lstore_n 1, 1) := by decide +kernel
theorem dX7_wantedHeat_54 : decode cX7_wantedHeat 54 = .ok (.lconst 0, 1) := by decide +kernel
theorem dX7_wantedHeat_55 : decode cX7_wantedHeat 55 = .ok (.ldc2_w 53, 3) := by decide +kernel
theorem dX7_wantedHeat_58 : decode cX7_wantedHeat 58 = .ok (.lload_n 1, 1) := by decide +kernel
theorem dX7_wantedHeat_59 : decode cX7_wantedHeat 59 = .ok (.invokestatic 55, 3) := by decide +kernel
theorem dX7_wantedHeat_62 : decode cX7_wantedHeat 62 = .ok (.invokestatic 61, 3) := by decide +kernel
theorem dX7_wantedHeat_65 : decode cX7_wantedHeat 65 = .ok (.l2i, 1) := by decide +kernel
theorem dX7_wantedHeat_66 : decode cX7_wantedHeat 66 = .ok (.ireturn, 1) := by decide +kernel
theorem dX7_endsInMinute_0 : decode cX7_endsInMinute 0 = .ok (.aload_n 0, 1) := by decide +kernel
theorem dX7_endsInMinute_1 : decode cX7_endsInMinute 1 = .ok (.invokevirtual 64, 3) := by decide +kernel
theorem dX7_endsInMinute_4 : decode cX7_endsInMinute 4 = .ok (.ifCond .eq 10, 3) := by decide +kernel
theorem dX7_endsInMinute_7 : decode cX7_endsInMinute 7 = .ok (.aload_n 0, 1) := by decide +kernel
theorem dX7_endsInMinute_8 : decode cX7_endsInMinute 8 = .ok (.iconst 2, 1) := by decide +kernel
theorem dX7_endsInMinute_9 : decode cX7_endsInMinute 9 = .ok (.putfield 9, 3) := by decide +kernel
theorem dX7_endsInMinute_12 : decode cX7_endsInMinute 12 = .ok (.iconst 0, 1) := by decide +kernel
theorem dX7_endsInMinute_13 : decode cX7_endsInMinute 13 = .ok (.ireturn, 1) := by decide +kernel
theorem dX7_endsInMinute_14 : decode cX7_endsInMinute 14 = .ok (.aload_n 0, 1) := by decide +kernel
theorem dX7_endsInMinute_15 : decode cX7_endsInMinute 15 = .ok (.dup, 1) := by decide +kernel
theorem dX7_endsInMinute_16 : decode cX7_endsInMinute 16 = .ok (.getfield 21, 3) := by decide +kernel
theorem dX7_endsInMinute_19 : decode cX7_endsInMinute 19 = .ok (.iconst 1, 1) := by decide +kernel
theorem dX7_endsInMinute_20 : decode cX7_endsInMinute 20 = .ok (.iadd, 1) := by decide +kernel
theorem dX7_endsInMinute_21 : decode cX7_endsInMinute 21 = .ok (.putfield 21, 3) := by decide +kernel
theorem dX7_endsInMinute_24 : decode cX7_endsInMinute 24 = .ok (.aload_n 0, 1) := by decide +kernel
theorem dX7_endsInMinute_25 : decode cX7_endsInMinute 25 = .ok (.iload_n 1, 1) := by decide +kernel
theorem dX7_endsInMinute_26 : decode cX7_endsInMinute 26 = .ok (.invokevirtual 68, 3) := by decide +kernel
theorem dX7_endsInMinute_29 : decode cX7_endsInMinute 29 = .ok (.aload_n 0, 1) := by decide +kernel
theorem dX7_endsInMinute_30 : decode cX7_endsInMinute 30 = .ok (.invokevirtual 72, 3) := by decide +kernel
theorem dX7_endsInMinute_33 : decode cX7_endsInMinute 33 = .ok (.ifCond .ne 5, 3) := by decide +kernel
theorem dX7_endsInMinute_36 : decode cX7_endsInMinute 36 = .ok (.iconst 0, 1) := by decide +kernel
theorem dX7_endsInMinute_37 : decode cX7_endsInMinute 37 = .ok (.ireturn, 1) := by decide +kernel
theorem dX7_endsInMinute_38 : decode cX7_endsInMinute 38 = .ok (.aload_n 0, 1) := by decide +kernel
theorem dX7_endsInMinute_39 : decode cX7_endsInMinute 39 = .ok (.dup, 1) := by decide +kernel
theorem dX7_endsInMinute_40 : decode cX7_endsInMinute 40 = .ok (.getfield 18, 3) := by decide +kernel
theorem dX7_endsInMinute_43 : decode cX7_endsInMinute 43 = .ok (.iconst 1, 1) := by decide +kernel
theorem dX7_endsInMinute_44 : decode cX7_endsInMinute 44 = .ok (.iadd, 1) := by decide +kernel
theorem dX7_endsInMinute_45 : decode cX7_endsInMinute 45 = .ok (.putfield 18, 3) := by decide +kernel
theorem dX7_endsInMinute_48 : decode cX7_endsInMinute 48 = .ok (.aload_n 0, 1) := by decide +kernel
theorem dX7_endsInMinute_49 : decode cX7_endsInMinute 49 = .ok (.iconst 0, 1) := by decide +kernel
theorem dX7_endsInMinute_50 : decode cX7_endsInMinute 50 = .ok (.putfield 21, 3) := by decide +kernel
theorem dX7_endsInMinute_53 : decode cX7_endsInMinute 53 = .ok (.aload_n 0, 1) := by decide +kernel
theorem dX7_endsInMinute_54 : decode cX7_endsInMinute 54 = .ok (.getfield 18, 3) := by decide +kernel
theorem dX7_endsInMinute_57 : decode cX7_endsInMinute 57 = .ok (.aload_n 0, 1) := by decide +kernel
theorem dX7_endsInMinute_58 : decode cX7_endsInMinute 58 = .ok (.getfield 34, 3) := by decide +kernel
theorem dX7_endsInMinute_61 : decode cX7_endsInMinute 61 = .ok (.getfield 40, 3) := by decide +kernel
theorem dX7_endsInMinute_64 : decode cX7_endsInMinute 64 = .ok (.if_icmp .ge 5, 3) := by decide +kernel
theorem dX7_endsInMinute_67 : decode cX7_endsInMinute 67 = .ok (.iconst 0, 1) := by decide +kernel
theorem dX7_endsInMinute_68 : decode cX7_endsInMinute 68 = .ok (.ireturn, 1) := by decide +kernel
theorem dX7_endsInMinute_69 : decode cX7_endsInMinute 69 = .ok (.aload_n 0, 1) := by decide +kernel
theorem dX7_endsInMinute_70 : decode cX7_endsInMinute 70 = .ok (.iconst 0, 1) := by decide +kernel
theorem dX7_endsInMinute_71 : decode cX7_endsInMinute 71 = .ok (.putfield 9, 3) := by decide +kernel
theorem dX7_endsInMinute_74 : decode cX7_endsInMinute 74 = .ok (.iconst 1, 1) := by decide +kernel
theorem dX7_endsInMinute_75 : decode cX7_endsInMinute 75 = .ok (.ireturn, 1) := by decide +kernel
theorem dX7_cannotWork_0 : decode cX7_cannotWork 0 = .ok (.aload_n 0, 1) := by decide +kernel
theorem dX7_cannotWork_1 : decode cX7_cannotWork 1 = .ok (.getfield 34, 3) := by decide +kernel
theorem dX7_cannotWork_4 : decode cX7_cannotWork 4 = .ok (.aload_n 0, 1) := by decide +kernel
theorem dX7_cannotWork_5 : decode cX7_cannotWork 5 = .ok (.getfield 18, 3) := by decide +kernel
theorem dX7_cannotWork_8 : decode cX7_cannotWork 8 = .ok (.invokevirtual 45, 3) := by decide +kernel
theorem dX7_cannotWork_11 : decode cX7_cannotWork 11 = .ok (.istore_n 1, 1) := by decide +kernel
theorem dX7_cannotWork_12 : decode cX7_cannotWork 12 = .ok (.iload_n 1, 1) := by decide +kernel
theorem dX7_cannotWork_13 : decode cX7_cannotWork 13 = .ok (.bipush 104, 2) := by decide +kernel
theorem dX7_cannotWork_15 : decode cX7_cannotWork 15 = .ok (.if_icmp .ne 10, 3) := by decide +kernel
theorem dX7_cannotWork_18 : decode cX7_cannotWork 18 = .ok (.aload_n 0, 1) := by decide +kernel
theorem dX7_cannotWork_19 : decode cX7_cannotWork 19 = .ok (.getfield 24, 3) := by decide +kernel
theorem dX7_cannotWork_22 : decode cX7_cannotWork 22 = .ok (.ifCond .eq 16, 3) := by decide +kernel
theorem dX7_cannotWork_25 : decode cX7_cannotWork 25 = .ok (.iload_n 1, 1) := by decide +kernel
theorem dX7_cannotWork_26 : decode cX7_cannotWork 26 = .ok (.bipush 115, 2) := by decide +kernel
theorem dX7_cannotWork_28 : decode cX7_cannotWork 28 = .ok (.if_icmp .ne 14, 3) := by decide +kernel
theorem dX7_cannotWork_31 : decode cX7_cannotWork 31 = .ok (.aload_n 0, 1) := by decide +kernel
theorem dX7_cannotWork_32 : decode cX7_cannotWork 32 = .ok (.getfield 24, 3) := by decide +kernel
theorem dX7_cannotWork_35 : decode cX7_cannotWork 35 = .ok (.ifCond .le 7, 3) := by decide +kernel
theorem dX7_cannotWork_38 : decode cX7_cannotWork 38 = .ok (.iconst 1, 1) := by decide +kernel
theorem dX7_cannotWork_39 : decode cX7_cannotWork 39 = .ok (.goto 4, 3) := by decide +kernel
theorem dX7_cannotWork_42 : decode cX7_cannotWork 42 = .ok (.iconst 0, 1) := by decide +kernel
theorem dX7_cannotWork_43 : decode cX7_cannotWork 43 = .ok (.ireturn, 1) := by decide +kernel
theorem dX7_change_0 : decode cX7_change 0 = .ok (.aload_n 0, 1) := by decide +kernel
theorem dX7_change_1 : decode cX7_change 1 = .ok (.getfield 34, 3) := by decide +kernel
theorem dX7_change_4 : decode cX7_change 4 = .ok (.aload_n 0, 1) := by decide +kernel
theorem dX7_change_5 : decode cX7_change 5 = .ok (.getfield 18, 3) := by decide +kernel
theorem dX7_change_8 : decode cX7_change 8 = .ok (.invokevirtual 45, 3) := by decide +kernel
theorem dX7_change_11 : decode cX7_change 11 = .ok (.tableswitch 72 100 104 #[65, 72, 33, 72, 51], 33) := by decide +kernel
theorem dX7_change_44 : decode cX7_change 44 = .ok (.aload_n 0, 1) := by decide +kernel
theorem dX7_change_45 : decode cX7_change 45 = .ok (.aload_n 0, 1) := by decide +kernel
theorem dX7_change_46 : decode cX7_change 46 = .ok (.getfield 34, 3) := by decide +kernel
theorem dX7_change_49 : decode cX7_change 49 = .ok (.aload_n 0, 1) := by decide +kernel
theorem dX7_change_50 : decode cX7_change 50 = .ok (.getfield 18, 3) := by decide +kernel
theorem dX7_change_53 : decode cX7_change 53 = .ok (.invokevirtual 49, 3) := by decide +kernel
theorem dX7_change_56 : decode cX7_change 56 = .ok (.invokevirtual 75, 3) := by decide +kernel
theorem dX7_change_59 : decode cX7_change 59 = .ok (.goto 24, 3) := by decide +kernel
theorem dX7_change_62 : decode cX7_change 62 = .ok (.aload_n 0, 1) := by decide +kernel
theorem dX7_change_63 : decode cX7_change 63 = .ok (.dup, 1) := by decide +kernel
theorem dX7_change_64 : decode cX7_change 64 = .ok (.getfield 27, 3) := by decide +kernel
theorem dX7_change_67 : decode cX7_change 67 = .ok (.iload_n 1, 1) := by decide +kernel
theorem dX7_change_68 : decode cX7_change 68 = .ok (.i2l, 1) := by decide +kernel
theorem dX7_change_69 : decode cX7_change 69 = .ok (.ladd, 1) := by decide +kernel
theorem dX7_change_70 : decode cX7_change 70 = .ok (.putfield 27, 3) := by decide +kernel
theorem dX7_change_73 : decode cX7_change 73 = .ok (.goto 10, 3) := by decide +kernel
theorem dX7_change_76 : decode cX7_change 76 = .ok (.aload_n 0, 1) := by decide +kernel
theorem dX7_change_77 : decode cX7_change 77 = .ok (.invokevirtual 78, 3) := by decide +kernel
theorem dX7_change_80 : decode cX7_change 80 = .ok (.goto 3, 3) := by decide +kernel
theorem dX7_change_83 : decode cX7_change 83 = .ok (.return_, 1) := by decide +kernel
theorem dX7_pour_0 : decode cX7_pour 0 = .ok (.iload_n 1, 1) := by decide +kernel
theorem dX7_pour_1 : decode cX7_pour 1 = .ok (.bipush 6, 2) := by decide +kernel
theorem dX7_pour_3 : decode cX7_pour 3 = .ok (.aload_n 0, 1) := by decide +kernel
theorem dX7_pour_4 : decode cX7_pour 4 = .ok (.getfield 21, 3) := by decide +kernel
theorem dX7_pour_7 : decode cX7_pour 7 = .ok (.iconst 1, 1) := by decide +kernel
theorem dX7_pour_8 : decode cX7_pour 8 = .ok (.isub, 1) := by decide +kernel
theorem dX7_pour_9 : decode cX7_pour 9 = .ok (.imul, 1) := by decide +kernel
theorem dX7_pour_10 : decode cX7_pour 10 = .ok (.isub, 1) := by decide +kernel
theorem dX7_pour_11 : decode cX7_pour 11 = .ok (.istore_n 2, 1) := by decide +kernel
theorem dX7_pour_12 : decode cX7_pour 12 = .ok (.bipush 6, 2) := by decide +kernel
theorem dX7_pour_14 : decode cX7_pour 14 = .ok (.iload_n 2, 1) := by decide +kernel
theorem dX7_pour_15 : decode cX7_pour 15 = .ok (.invokestatic 81, 3) := by decide +kernel
theorem dX7_pour_18 : decode cX7_pour 18 = .ok (.istore_n 3, 1) := by decide +kernel
theorem dX7_pour_19 : decode cX7_pour 19 = .ok (.aload_n 0, 1) := by decide +kernel
theorem dX7_pour_20 : decode cX7_pour 20 = .ok (.dup, 1) := by decide +kernel
theorem dX7_pour_21 : decode cX7_pour 21 = .ok (.getfield 24, 3) := by decide +kernel
theorem dX7_pour_24 : decode cX7_pour 24 = .ok (.iload_n 3, 1) := by decide +kernel
theorem dX7_pour_25 : decode cX7_pour 25 = .ok (.iadd, 1) := by decide +kernel
theorem dX7_pour_26 : decode cX7_pour 26 = .ok (.putfield 24, 3) := by decide +kernel
theorem dX7_pour_29 : decode cX7_pour 29 = .ok (.aload_n 0, 1) := by decide +kernel
theorem dX7_pour_30 : decode cX7_pour 30 = .ok (.dup, 1) := by decide +kernel
theorem dX7_pour_31 : decode cX7_pour 31 = .ok (.getfield 31, 3) := by decide +kernel
theorem dX7_pour_34 : decode cX7_pour 34 = .ok (.iload_n 3, 1) := by decide +kernel
theorem dX7_pour_35 : decode cX7_pour 35 = .ok (.iadd, 1) := by decide +kernel
theorem dX7_pour_36 : decode cX7_pour 36 = .ok (.putfield 31, 3) := by decide +kernel
theorem dX7_pour_39 : decode cX7_pour 39 = .ok (.aload_n 0, 1) := by decide +kernel
theorem dX7_pour_40 : decode cX7_pour 40 = .ok (.dup, 1) := by decide +kernel
theorem dX7_pour_41 : decode cX7_pour 41 = .ok (.getfield 27, 3) := by decide +kernel
theorem dX7_pour_44 : decode cX7_pour 44 = .ok (.ldc2_w 84, 3) := by decide +kernel
theorem dX7_pour_47 : decode cX7_pour 47 = .ok (.iload_n 3, 1) := by decide +kernel
theorem dX7_pour_48 : decode cX7_pour 48 = .ok (.i2l, 1) := by decide +kernel
theorem dX7_pour_49 : decode cX7_pour 49 = .ok (.lmul, 1) := by decide +kernel
theorem dX7_pour_50 : decode cX7_pour 50 = .ok (.ladd, 1) := by decide +kernel
theorem dX7_pour_51 : decode cX7_pour 51 = .ok (.putfield 27, 3) := by decide +kernel
theorem dX7_pour_54 : decode cX7_pour 54 = .ok (.return_, 1) := by decide +kernel
theorem dX7_drain_0 : decode cX7_drain 0 = .ok (.iconst 0, 1) := by decide +kernel
theorem dX7_drain_1 : decode cX7_drain 1 = .ok (.aload_n 0, 1) := by decide +kernel
theorem dX7_drain_2 : decode cX7_drain 2 = .ok (.getfield 24, 3) := by decide +kernel
theorem dX7_drain_5 : decode cX7_drain 5 = .ok (.bipush 12, 2) := by decide +kernel
theorem dX7_drain_7 : decode cX7_drain 7 = .ok (.isub, 1) := by decide +kernel
theorem dX7_drain_8 : decode cX7_drain 8 = .ok (.invokestatic 86, 3) := by decide +kernel
theorem dX7_drain_11 : decode cX7_drain 11 = .ok (.istore_n 1, 1) := by decide +kernel
theorem dX7_drain_12 : decode cX7_drain 12 = .ok (.aload_n 0, 1) := by decide +kernel
theorem dX7_drain_13 : decode cX7_drain 13 = .ok (.aload_n 0, 1) := by decide +kernel
theorem dX7_drain_14 : decode cX7_drain 14 = .ok (.getfield 24, 3) := by decide +kernel
theorem dX7_drain_17 : decode cX7_drain 17 = .ok (.ifCond .le 19, 3) := by decide +kernel
theorem dX7_drain_20 : decode cX7_drain 20 = .ok (.aload_n 0, 1) := by decide +kernel
theorem dX7_drain_21 : decode cX7_drain 21 = .ok (.getfield 27, 3) := by decide +kernel
theorem dX7_drain_24 : decode cX7_drain 24 = .ok (.iload_n 1, 1) := by decide +kernel
theorem dX7_drain_25 : decode cX7_drain 25 = .ok (.i2l, 1) := by decide +kernel
theorem dX7_drain_26 : decode cX7_drain 26 = .ok (.lmul, 1) := by decide +kernel
theorem dX7_drain_27 : decode cX7_drain 27 = .ok (.aload_n 0, 1) := by decide +kernel
theorem dX7_drain_28 : decode cX7_drain 28 = .ok (.getfield 24, 3) := by decide +kernel
theorem dX7_drain_31 : decode cX7_drain 31 = .ok (.i2l, 1) := by decide +kernel
theorem dX7_drain_32 : decode cX7_drain 32 = .ok (.ldiv, 1) := by decide +kernel
theorem dX7_drain_33 : decode cX7_drain 33 = .ok (.goto 4, 3) := by decide +kernel
theorem dX7_drain_36 : decode cX7_drain 36 = .ok (.lconst 0, 1) := by decide +kernel
theorem dX7_drain_37 : decode cX7_drain 37 = .ok (.putfield 27, 3) := by decide +kernel
theorem dX7_drain_40 : decode cX7_drain 40 = .ok (.aload_n 0, 1) := by decide +kernel
theorem dX7_drain_41 : decode cX7_drain 41 = .ok (.iload_n 1, 1) := by decide +kernel
theorem dX7_drain_42 : decode cX7_drain 42 = .ok (.putfield 24, 3) := by decide +kernel
theorem dX7_drain_45 : decode cX7_drain 45 = .ok (.return_, 1) := by decide +kernel
theorem dX7_isPhaseOver_0 : decode cX7_isPhaseOver 0 = .ok (.aload_n 0, 1) := by decide +kernel
theorem dX7_isPhaseOver_1 : decode cX7_isPhaseOver 1 = .ok (.getfield 34, 3) := by decide +kernel
theorem dX7_isPhaseOver_4 : decode cX7_isPhaseOver 4 = .ok (.aload_n 0, 1) := by decide +kernel
theorem dX7_isPhaseOver_5 : decode cX7_isPhaseOver 5 = .ok (.getfield 18, 3) := by decide +kernel
theorem dX7_isPhaseOver_8 : decode cX7_isPhaseOver 8 = .ok (.invokevirtual 49, 3) := by decide +kernel
theorem dX7_isPhaseOver_11 : decode cX7_isPhaseOver 11 = .ok (.istore_n 1, 1) := by decide +kernel
theorem dX7_isPhaseOver_12 : decode cX7_isPhaseOver 12 = .ok (.aload_n 0, 1) := by decide +kernel
theorem dX7_isPhaseOver_13 : decode cX7_isPhaseOver 13 = .ok (.getfield 34, 3) := by decide +kernel
theorem dX7_isPhaseOver_16 : decode cX7_isPhaseOver 16 = .ok (.aload_n 0, 1) := by decide +kernel
theorem dX7_isPhaseOver_17 : decode cX7_isPhaseOver 17 = .ok (.getfield 18, 3) := by decide +kernel
theorem dX7_isPhaseOver_20 : decode cX7_isPhaseOver 20 = .ok (.invokevirtual 45, 3) := by decide +kernel
theorem dX7_isPhaseOver_23 : decode cX7_isPhaseOver 23 = .ok (.tableswitch 77 100 104 #[64, 77, 33, 77, 50], 33) := by decide +kernel
theorem dX7_isPhaseOver_56 : decode cX7_isPhaseOver 56 = .ok (.bipush 6, 2) := by decide +kernel
theorem dX7_isPhaseOver_58 : decode cX7_isPhaseOver 58 = .ok (.aload_n 0, 1) := by decide +kernel
theorem dX7_isPhaseOver_59 : decode cX7_isPhaseOver 59 = .ok (.getfield 21, 3) := by decide +kernel
theorem dX7_isPhaseOver_62 : decode cX7_isPhaseOver 62 = .ok (.imul, 1) := by decide +kernel
theorem dX7_isPhaseOver_63 : decode cX7_isPhaseOver 63 = .ok (.iload_n 1, 1) := by decide +kernel
theorem dX7_isPhaseOver_64 : decode cX7_isPhaseOver 64 = .ok (.if_icmp .lt 7, 3) := by decide +kernel
theorem dX7_isPhaseOver_67 : decode cX7_isPhaseOver 67 = .ok (.iconst 1, 1) := by decide +kernel
theorem dX7_isPhaseOver_68 : decode cX7_isPhaseOver 68 = .ok (.goto 4, 3) := by decide +kernel
theorem dX7_isPhaseOver_71 : decode cX7_isPhaseOver 71 = .ok (.iconst 0, 1) := by decide +kernel
theorem dX7_isPhaseOver_72 : decode cX7_isPhaseOver 72 = .ok (.ireturn, 1) := by decide +kernel
theorem dX7_isPhaseOver_73 : decode cX7_isPhaseOver 73 = .ok (.aload_n 0, 1) := by decide +kernel
theorem dX7_isPhaseOver_74 : decode cX7_isPhaseOver 74 = .ok (.invokevirtual 88, 3) := by decide +kernel
theorem dX7_isPhaseOver_77 : decode cX7_isPhaseOver 77 = .ok (.iload_n 1, 1) := by decide +kernel
theorem dX7_isPhaseOver_78 : decode cX7_isPhaseOver 78 = .ok (.if_icmp .lt 7, 3) := by decide +kernel
theorem dX7_isPhaseOver_81 : decode cX7_isPhaseOver 81 = .ok (.iconst 1, 1) := by decide +kernel
theorem dX7_isPhaseOver_82 : decode cX7_isPhaseOver 82 = .ok (.goto 4, 3) := by decide +kernel
theorem dX7_isPhaseOver_85 : decode cX7_isPhaseOver 85 = .ok (.iconst 0, 1) := by decide +kernel
theorem dX7_isPhaseOver_86 : decode cX7_isPhaseOver 86 = .ok (.ireturn, 1) := by decide +kernel
theorem dX7_isPhaseOver_87 : decode cX7_isPhaseOver 87 = .ok (.aload_n 0, 1) := by decide +kernel
theorem dX7_isPhaseOver_88 : decode cX7_isPhaseOver 88 = .ok (.getfield 24, 3) := by decide +kernel
theorem dX7_isPhaseOver_91 : decode cX7_isPhaseOver 91 = .ok (.ifCond .ne 7, 3) := by decide +kernel
theorem dX7_isPhaseOver_94 : decode cX7_isPhaseOver 94 = .ok (.iconst 1, 1) := by decide +kernel
theorem dX7_isPhaseOver_95 : decode cX7_isPhaseOver 95 = .ok (.goto 4, 3) := by decide +kernel
theorem dX7_isPhaseOver_98 : decode cX7_isPhaseOver 98 = .ok (.iconst 0, 1) := by decide +kernel
theorem dX7_isPhaseOver_99 : decode cX7_isPhaseOver 99 = .ok (.ireturn, 1) := by decide +kernel
theorem dX7_isPhaseOver_100 : decode cX7_isPhaseOver 100 = .ok (.aload_n 0, 1) := by decide +kernel
theorem dX7_isPhaseOver_101 : decode cX7_isPhaseOver 101 = .ok (.getfield 21, 3) := by decide +kernel
theorem dX7_isPhaseOver_104 : decode cX7_isPhaseOver 104 = .ok (.iload_n 1, 1) := by decide +kernel
theorem dX7_isPhaseOver_105 : decode cX7_isPhaseOver 105 = .ok (.if_icmp .lt 7, 3) := by decide +kernel
theorem dX7_isPhaseOver_108 : decode cX7_isPhaseOver 108 = .ok (.iconst 1, 1) := by decide +kernel
theorem dX7_isPhaseOver_109 : decode cX7_isPhaseOver 109 = .ok (.goto 4, 3) := by decide +kernel
theorem dX7_isPhaseOver_112 : decode cX7_isPhaseOver 112 = .ok (.iconst 0, 1) := by decide +kernel
theorem dX7_isPhaseOver_113 : decode cX7_isPhaseOver 113 = .ok (.ireturn, 1) := by decide +kernel
theorem dX7_cool_0 : decode cX7_cool 0 = .ok (.aload_n 0, 1) := by decide +kernel
theorem dX7_cool_1 : decode cX7_cool 1 = .ok (.invokevirtual 88, 3) := by decide +kernel
theorem dX7_cool_4 : decode cX7_cool 4 = .ok (.bipush 15, 2) := by decide +kernel
theorem dX7_cool_6 : decode cX7_cool 6 = .ok (.isub, 1) := by decide +kernel
theorem dX7_cool_7 : decode cX7_cool 7 = .ok (.istore_n 1, 1) := by decide +kernel
theorem dX7_cool_8 : decode cX7_cool 8 = .ok (.aload_n 0, 1) := by decide +kernel
theorem dX7_cool_9 : decode cX7_cool 9 = .ok (.getfield 24, 3) := by decide +kernel
theorem dX7_cool_12 : decode cX7_cool 12 = .ok (.ifCond .le 28, 3) := by decide +kernel
theorem dX7_cool_15 : decode cX7_cool 15 = .ok (.iload_n 1, 1) := by decide +kernel
theorem dX7_cool_16 : decode cX7_cool 16 = .ok (.ifCond .le 24, 3) := by decide +kernel
theorem dX7_cool_19 : decode cX7_cool 19 = .ok (.aload_n 0, 1) := by decide +kernel
theorem dX7_cool_20 : decode cX7_cool 20 = .ok (.dup, 1) := by decide +kernel
theorem dX7_cool_21 : decode cX7_cool 21 = .ok (.getfield 27, 3) := by decide +kernel
theorem dX7_cool_24 : decode cX7_cool 24 = .ok (.iload_n 1, 1) := by decide +kernel
theorem dX7_cool_25 : decode cX7_cool 25 = .ok (.i2l, 1) := by decide +kernel
theorem dX7_cool_26 : decode cX7_cool 26 = .ok (.aload_n 0, 1) := by decide +kernel
theorem dX7_cool_27 : decode cX7_cool 27 = .ok (.getfield 24, 3) := by decide +kernel
theorem dX7_cool_30 : decode cX7_cool 30 = .ok (.i2l, 1) := by decide +kernel
theorem dX7_cool_31 : decode cX7_cool 31 = .ok (.lmul, 1) := by decide +kernel
theorem dX7_cool_32 : decode cX7_cool 32 = .ok (.ldc2_w 92, 3) := by decide +kernel
theorem dX7_cool_35 : decode cX7_cool 35 = .ok (.ldiv, 1) := by decide +kernel
theorem dX7_cool_36 : decode cX7_cool 36 = .ok (.lsub, 1) := by decide +kernel
theorem dX7_cool_37 : decode cX7_cool 37 = .ok (.putfield 27, 3) := by decide +kernel
theorem dX7_cool_40 : decode cX7_cool 40 = .ok (.return_, 1) := by decide +kernel
theorem dX7_unlockIfSafe_0 : decode cX7_unlockIfSafe 0 = .ok (.aload_n 0, 1) := by decide +kernel
theorem dX7_unlockIfSafe_1 : decode cX7_unlockIfSafe 1 = .ok (.getfield 15, 3) := by decide +kernel
theorem dX7_unlockIfSafe_4 : decode cX7_unlockIfSafe 4 = .ok (.iconst 2, 1) := by decide +kernel
theorem dX7_unlockIfSafe_5 : decode cX7_unlockIfSafe 5 = .ok (.if_icmp .ne 24, 3) := by decide +kernel
theorem dX7_unlockIfSafe_8 : decode cX7_unlockIfSafe 8 = .ok (.aload_n 0, 1) := by decide +kernel
theorem dX7_unlockIfSafe_9 : decode cX7_unlockIfSafe 9 = .ok (.getfield 9, 3) := by decide +kernel
theorem dX7_unlockIfSafe_12 : decode cX7_unlockIfSafe 12 = .ok (.iconst 1, 1) := by decide +kernel
theorem dX7_unlockIfSafe_13 : decode cX7_unlockIfSafe 13 = .ok (.if_icmp .eq 16, 3) := by decide +kernel
theorem dX7_unlockIfSafe_16 : decode cX7_unlockIfSafe 16 = .ok (.aload_n 0, 1) := by decide +kernel
theorem dX7_unlockIfSafe_17 : decode cX7_unlockIfSafe 17 = .ok (.invokevirtual 88, 3) := by decide +kernel
theorem dX7_unlockIfSafe_20 : decode cX7_unlockIfSafe 20 = .ok (.iload_n 1, 1) := by decide +kernel
theorem dX7_unlockIfSafe_21 : decode cX7_unlockIfSafe 21 = .ok (.if_icmp .gt 8, 3) := by decide +kernel
theorem dX7_unlockIfSafe_24 : decode cX7_unlockIfSafe 24 = .ok (.aload_n 0, 1) := by decide +kernel
theorem dX7_unlockIfSafe_25 : decode cX7_unlockIfSafe 25 = .ok (.iconst 1, 1) := by decide +kernel
theorem dX7_unlockIfSafe_26 : decode cX7_unlockIfSafe 26 = .ok (.putfield 15, 3) := by decide +kernel
theorem dX7_unlockIfSafe_29 : decode cX7_unlockIfSafe 29 = .ok (.return_, 1) := by decide +kernel
theorem dX7_tell_0 : decode cX7_tell 0 = .ok (.iload_n 1, 1) := by decide +kernel
theorem dX7_tell_1 : decode cX7_tell 1 = .ok (.tableswitch 124 0 8 #[51, 56, 73, 78, 83, 89, 94, 111, 119], 51) := by decide +kernel
theorem dX7_tell_52 : decode cX7_tell 52 = .ok (.aload_n 0, 1) := by decide +kernel
theorem dX7_tell_53 : decode cX7_tell 53 = .ok (.getfield 9, 3) := by decide +kernel
theorem dX7_tell_56 : decode cX7_tell 56 = .ok (.ireturn, 1) := by decide +kernel
theorem dX7_tell_57 : decode cX7_tell 57 = .ok (.aload_n 0, 1) := by decide +kernel
theorem dX7_tell_58 : decode cX7_tell 58 = .ok (.getfield 9, 3) := by decide +kernel
theorem dX7_tell_61 : decode cX7_tell 61 = .ok (.ifCond .ne 8, 3) := by decide +kernel
theorem dX7_tell_64 : decode cX7_tell 64 = .ok (.bipush (-5), 2) := by decide +kernel
theorem dX7_tell_66 : decode cX7_tell 66 = .ok (.goto 7, 3) := by decide +kernel
theorem dX7_tell_69 : decode cX7_tell 69 = .ok (.aload_n 0, 1) := by decide +kernel
theorem dX7_tell_70 : decode cX7_tell 70 = .ok (.getfield 18, 3) := by decide +kernel
theorem dX7_tell_73 : decode cX7_tell 73 = .ok (.ireturn, 1) := by decide +kernel
theorem dX7_tell_74 : decode cX7_tell 74 = .ok (.aload_n 0, 1) := by decide +kernel
theorem dX7_tell_75 : decode cX7_tell 75 = .ok (.getfield 24, 3) := by decide +kernel
theorem dX7_tell_78 : decode cX7_tell 78 = .ok (.ireturn, 1) := by decide +kernel
theorem dX7_tell_79 : decode cX7_tell 79 = .ok (.aload_n 0, 1) := by decide +kernel
theorem dX7_tell_80 : decode cX7_tell 80 = .ok (.invokevirtual 88, 3) := by decide +kernel
theorem dX7_tell_83 : decode cX7_tell 83 = .ok (.ireturn, 1) := by decide +kernel
theorem dX7_tell_84 : decode cX7_tell 84 = .ok (.aload_n 0, 1) := by decide +kernel
theorem dX7_tell_85 : decode cX7_tell 85 = .ok (.getfield 27, 3) := by decide +kernel
theorem dX7_tell_88 : decode cX7_tell 88 = .ok (.l2i, 1) := by decide +kernel
theorem dX7_tell_89 : decode cX7_tell 89 = .ok (.ireturn, 1) := by decide +kernel
theorem dX7_tell_90 : decode cX7_tell 90 = .ok (.aload_n 0, 1) := by decide +kernel
theorem dX7_tell_91 : decode cX7_tell 91 = .ok (.getfield 15, 3) := by decide +kernel
theorem dX7_tell_94 : decode cX7_tell 94 = .ok (.ireturn, 1) := by decide +kernel
theorem dX7_tell_95 : decode cX7_tell 95 = .ok (.aload_n 0, 1) := by decide +kernel
theorem dX7_tell_96 : decode cX7_tell 96 = .ok (.getfield 9, 3) := by decide +kernel
theorem dX7_tell_99 : decode cX7_tell 99 = .ok (.ifCond .ne 8, 3) := by decide +kernel
theorem dX7_tell_102 : decode cX7_tell 102 = .ok (.bipush (-5), 2) := by decide +kernel
theorem dX7_tell_104 : decode cX7_tell 104 = .ok (.goto 7, 3) := by decide +kernel
theorem dX7_tell_107 : decode cX7_tell 107 = .ok (.aload_n 0, 1) := by decide +kernel
theorem dX7_tell_108 : decode cX7_tell 108 = .ok (.getfield 21, 3) := by decide +kernel
theorem dX7_tell_111 : decode cX7_tell 111 = .ok (.ireturn, 1) := by decide +kernel
theorem dX7_tell_112 : decode cX7_tell 112 = .ok (.aload_n 0, 1) := by decide +kernel
theorem dX7_tell_113 : decode cX7_tell 113 = .ok (.getfield 34, 3) := by decide +kernel
theorem dX7_tell_116 : decode cX7_tell 116 = .ok (.getfield 40, 3) := by decide +kernel
theorem dX7_tell_119 : decode cX7_tell 119 = .ok (.ireturn, 1) := by decide +kernel
theorem dX7_tell_120 : decode cX7_tell 120 = .ok (.aload_n 0, 1) := by decide +kernel
theorem dX7_tell_121 : decode cX7_tell 121 = .ok (.getfield 31, 3) := by decide +kernel
theorem dX7_tell_124 : decode cX7_tell 124 = .ok (.ireturn, 1) := by decide +kernel
theorem dX7_tell_125 : decode cX7_tell 125 = .ok (.bipush (-2), 2) := by decide +kernel
theorem dX7_tell_127 : decode cX7_tell 127 = .ok (.ireturn, 1) := by decide +kernel
theorem dX8_init_0 : decode cX8_init 0 = .ok (.aload_n 0, 1) := by decide +kernel
theorem dX8_init_1 : decode cX8_init 1 = .ok (.invokespecial 1, 3) := by decide +kernel
theorem dX8_init_4 : decode cX8_init 4 = .ok (.aload_n 0, 1) := by decide +kernel
theorem dX8_init_5 : decode cX8_init 5 = .ok (.new 7, 3) := by decide +kernel
theorem dX8_init_8 : decode cX8_init 8 = .ok (.dup, 1) := by decide +kernel
theorem dX8_init_9 : decode cX8_init 9 = .ok (.invokespecial 9, 3) := by decide +kernel
theorem dX8_init_12 : decode cX8_init 12 = .ok (.putfield 10, 3) := by decide +kernel
theorem dX8_init_15 : decode cX8_init 15 = .ok (.aload_n 0, 1) := by decide +kernel
theorem dX8_init_16 : decode cX8_init 16 = .ok (.new 7, 3) := by decide +kernel
theorem dX8_init_19 : decode cX8_init 19 = .ok (.dup, 1) := by decide +kernel
theorem dX8_init_20 : decode cX8_init 20 = .ok (.invokespecial 9, 3) := by decide +kernel
theorem dX8_init_23 : decode cX8_init 23 = .ok (.putfield 16, 3) := by decide +kernel
theorem dX8_init_26 : decode cX8_init 26 = .ok (.aload_n 0, 1) := by decide +kernel
theorem dX8_init_27 : decode cX8_init 27 = .ok (.new 7, 3) := by decide +kernel
theorem dX8_init_30 : decode cX8_init 30 = .ok (.dup, 1) := by decide +kernel
theorem dX8_init_31 : decode cX8_init 31 = .ok (.invokespecial 9, 3) := by decide +kernel
theorem dX8_init_34 : decode cX8_init 34 = .ok (.putfield 19, 3) := by decide +kernel
theorem dX8_init_37 : decode cX8_init 37 = .ok (.aload_n 0, 1) := by decide +kernel
theorem dX8_init_38 : decode cX8_init 38 = .ok (.new 22, 3) := by decide +kernel
theorem dX8_init_41 : decode cX8_init 41 = .ok (.dup, 1) := by decide +kernel
theorem dX8_init_42 : decode cX8_init 42 = .ok (.invokespecial 24, 3) := by decide +kernel
theorem dX8_init_45 : decode cX8_init 45 = .ok (.putfield 25, 3) := by decide +kernel
theorem dX8_init_48 : decode cX8_init 48 = .ok (.aload_n 0, 1) := by decide +kernel
theorem dX8_init_49 : decode cX8_init 49 = .ok (.new 29, 3) := by decide +kernel
theorem dX8_init_52 : decode cX8_init 52 = .ok (.dup, 1) := by decide +kernel
theorem dX8_init_53 : decode cX8_init 53 = .ok (.invokespecial 31, 3) := by decide +kernel
theorem dX8_init_56 : decode cX8_init 56 = .ok (.putfield 32, 3) := by decide +kernel
theorem dX8_init_59 : decode cX8_init 59 = .ok (.aload_n 0, 1) := by decide +kernel
theorem dX8_init_60 : decode cX8_init 60 = .ok (.new 36, 3) := by decide +kernel
theorem dX8_init_63 : decode cX8_init 63 = .ok (.dup, 1) := by decide +kernel
theorem dX8_init_64 : decode cX8_init 64 = .ok (.invokespecial 38, 3) := by decide +kernel
theorem dX8_init_67 : decode cX8_init 67 = .ok (.putfield 39, 3) := by decide +kernel
theorem dX8_init_70 : decode cX8_init 70 = .ok (.aload_n 0, 1) := by decide +kernel
theorem dX8_init_71 : decode cX8_init 71 = .ok (.iconst 0, 1) := by decide +kernel
theorem dX8_init_72 : decode cX8_init 72 = .ok (.putfield 43, 3) := by decide +kernel
theorem dX8_init_75 : decode cX8_init 75 = .ok (.return_, 1) := by decide +kernel
theorem dX8_addHouse_0 : decode cX8_addHouse 0 = .ok (.iload_n 1, 1) := by decide +kernel
theorem dX8_addHouse_1 : decode cX8_addHouse 1 = .ok (.iconst 1, 1) := by decide +kernel
theorem dX8_addHouse_2 : decode cX8_addHouse 2 = .ok (.bipush 20, 2) := by decide +kernel
theorem dX8_addHouse_4 : decode cX8_addHouse 4 = .ok (.invokestatic 47, 3) := by decide +kernel
theorem dX8_addHouse_7 : decode cX8_addHouse 7 = .ok (.ifCond .eq 24, 3) := by decide +kernel
theorem dX8_addHouse_10 : decode cX8_addHouse 10 = .ok (.iload_n 2, 1) := by decide +kernel
theorem dX8_addHouse_11 : decode cX8_addHouse 11 = .ok (.iconst 1, 1) := by decide +kernel
theorem dX8_addHouse_12 : decode cX8_addHouse 12 = .ok (.bipush 50, 2) := by decide +kernel
theorem dX8_addHouse_14 : decode cX8_addHouse 14 = .ok (.invokestatic 47, 3) := by decide +kernel
theorem dX8_addHouse_17 : decode cX8_addHouse 17 = .ok (.ifCond .eq 14, 3) := by decide +kernel
theorem dX8_addHouse_20 : decode cX8_addHouse 20 = .ok (.iload_n 3, 1) := by decide +kernel
theorem dX8_addHouse_21 : decode cX8_addHouse 21 = .ok (.iconst 0, 1) := by decide +kernel
theorem dX8_addHouse_22 : decode cX8_addHouse 22 = .ok (.sipush 9999, 3) := by decide +kernel
theorem dX8_addHouse_25 : decode cX8_addHouse 25 = .ok (.invokestatic 47, 3) := by decide +kernel
theorem dX8_addHouse_28 : decode cX8_addHouse 28 = .ok (.ifCond .ne 6, 3) := by decide +kernel
theorem dX8_addHouse_31 : decode cX8_addHouse 31 = .ok (.bipush (-2), 2) := by decide +kernel
theorem dX8_addHouse_33 : decode cX8_addHouse 33 = .ok (.ireturn, 1) := by decide +kernel
theorem dX8_addHouse_34 : decode cX8_addHouse 34 = .ok (.aload_n 0, 1) := by decide +kernel
theorem dX8_addHouse_35 : decode cX8_addHouse 35 = .ok (.getfield 10, 3) := by decide +kernel
theorem dX8_addHouse_38 : decode cX8_addHouse 38 = .ok (.getfield 51, 3) := by decide +kernel
theorem dX8_addHouse_41 : decode cX8_addHouse 41 = .ok (.bipush 8, 2) := by decide +kernel
theorem dX8_addHouse_43 : decode cX8_addHouse 43 = .ok (.if_icmp .lt 6, 3) := by decide +kernel
theorem dX8_addHouse_46 : decode cX8_addHouse 46 = .ok (.bipush (-3), 2) := by decide +kernel
theorem dX8_addHouse_48 : decode cX8_addHouse 48 = .ok (.ireturn, 1) := by decide +kernel
theorem dX8_addHouse_49 : decode cX8_addHouse 49 = .ok (.aload_n 0, 1) := by decide +kernel
theorem dX8_addHouse_50 : decode cX8_addHouse 50 = .ok (.getfield 25, 3) := by decide +kernel
theorem dX8_addHouse_53 : decode cX8_addHouse 53 = .ok (.aload_n 0, 1) := by decide +kernel
theorem dX8_addHouse_54 : decode cX8_addHouse 54 = .ok (.getfield 10, 3) := by decide +kernel
theorem dX8_addHouse_57 : decode cX8_addHouse 57 = .ok (.invokevirtual 55, 3) := by decide +kernel
theorem dX8_addHouse_60 : decode cX8_addHouse 60 = .ok (.aload_n 0, 1) := by decide +kernel
theorem dX8_addHouse_61 : decode cX8_addHouse 61 = .ok (.getfield 10, 3) := by decide +kernel
theorem dX8_addHouse_64 : decode cX8_addHouse 64 = .ok (.iload_n 1, 1) := by decide +kernel
theorem dX8_addHouse_65 : decode cX8_addHouse 65 = .ok (.iload_n 2, 1) := by decide +kernel
theorem dX8_addHouse_66 : decode cX8_addHouse 66 = .ok (.iload_n 3, 1) := by decide +kernel
theorem dX8_addHouse_67 : decode cX8_addHouse 67 = .ok (.invokevirtual 59, 3) := by decide +kernel
theorem dX8_addHouse_70 : decode cX8_addHouse 70 = .ok (.ireturn, 1) := by decide +kernel
theorem dX8_set_0 : decode cX8_set 0 = .ok (.iload_n 1, 1) := by decide +kernel
theorem dX8_set_1 : decode cX8_set 1 = .ok (.iconst 0, 1) := by decide +kernel
theorem dX8_set_2 : decode cX8_set 2 = .ok (.iconst 3, 1) := by decide +kernel
theorem dX8_set_3 : decode cX8_set 3 = .ok (.invokestatic 47, 3) := by decide +kernel
theorem dX8_set_6 : decode cX8_set 6 = .ok (.ifCond .eq 20, 3) := by decide +kernel
theorem dX8_set_9 : decode cX8_set 9 = .ok (.iload_n 2, 1) := by decide +kernel
theorem dX8_set_10 : decode cX8_set 10 = .ok (.getstatic 63, 3) := by decide +kernel
theorem dX8_set_13 : decode cX8_set 13 = .ok (.iload_n 1, 1) := by decide +kernel
theorem dX8_set_14 : decode cX8_set 14 = .ok (.iaload, 1) := by decide +kernel
theorem dX8_set_15 : decode cX8_set 15 = .ok (.getstatic 67, 3) := by decide +kernel
theorem dX8_set_18 : decode cX8_set 18 = .ok (.iload_n 1, 1) := by decide +kernel
theorem dX8_set_19 : decode cX8_set 19 = .ok (.iaload, 1) := by decide +kernel
theorem dX8_set_20 : decode cX8_set 20 = .ok (.invokestatic 47, 3) := by decide +kernel
theorem dX8_set_23 : decode cX8_set 23 = .ok (.ifCond .ne 6, 3) := by decide +kernel
theorem dX8_set_26 : decode cX8_set 26 = .ok (.bipush (-2), 2) := by decide +kernel
theorem dX8_set_28 : decode cX8_set 28 = .ok (.ireturn, 1) := by decide +kernel
theorem dX8_set_29 : decode cX8_set 29 = .ok (.iload_n 1, 1) := by decide +kernel
theorem dX8_set_30 : decode cX8_set 30 = .ok (.ifCond .ne 14, 3) := by decide +kernel
theorem dX8_set_33 : decode cX8_set 33 = .ok (.aload_n 0, 1) := by decide +kernel
theorem dX8_set_34 : decode cX8_set 34 = .ok (.getfield 10, 3) := by decide +kernel
theorem dX8_set_37 : decode cX8_set 37 = .ok (.getfield 70, 3) := by decide +kernel
theorem dX8_set_40 : decode cX8_set 40 = .ok (.iload_n 2, 1) := by decide +kernel
theorem dX8_set_41 : decode cX8_set 41 = .ok (.if_icmp .gt 19, 3) := by decide +kernel
theorem dX8_set_44 : decode cX8_set 44 = .ok (.iload_n 1, 1) := by decide +kernel
theorem dX8_set_45 : decode cX8_set 45 = .ok (.iconst 3, 1) := by decide +kernel
theorem dX8_set_46 : decode cX8_set 46 = .ok (.if_icmp .ne 17, 3) := by decide +kernel
theorem dX8_set_49 : decode cX8_set 49 = .ok (.aload_n 0, 1) := by decide +kernel
theorem dX8_set_50 : decode cX8_set 50 = .ok (.getfield 10, 3) := by decide +kernel
theorem dX8_set_53 : decode cX8_set 53 = .ok (.iload_n 2, 1) := by decide +kernel
theorem dX8_set_54 : decode cX8_set 54 = .ok (.invokevirtual 73, 3) := by decide +kernel
theorem dX8_set_57 : decode cX8_set 57 = .ok (.ifCond .eq 6, 3) := by decide +kernel
theorem dX8_set_60 : decode cX8_set 60 = .ok (.bipush (-4), 2) := by decide +kernel
theorem dX8_set_62 : decode cX8_set 62 = .ok (.ireturn, 1) := by decide +kernel
theorem dX8_set_63 : decode cX8_set 63 = .ok (.aload_n 0, 1) := by decide +kernel
theorem dX8_set_64 : decode cX8_set 64 = .ok (.getfield 10, 3) := by decide +kernel
theorem dX8_set_67 : decode cX8_set 67 = .ok (.getfield 77, 3) := by decide +kernel
theorem dX8_set_70 : decode cX8_set 70 = .ok (.iload_n 1, 1) := by decide +kernel
theorem dX8_set_71 : decode cX8_set 71 = .ok (.iaload, 1) := by decide +kernel
theorem dX8_set_72 : decode cX8_set 72 = .ok (.istore_n 3, 1) := by decide +kernel
theorem dX8_set_73 : decode cX8_set 73 = .ok (.iload_n 3, 1) := by decide +kernel
theorem dX8_set_74 : decode cX8_set 74 = .ok (.iload_n 2, 1) := by decide +kernel
theorem dX8_set_75 : decode cX8_set 75 = .ok (.if_icmp .ne 6, 3) := by decide +kernel
theorem dX8_set_78 : decode cX8_set 78 = .ok (.bipush (-5), 2) := by decide +kernel
theorem dX8_set_80 : decode cX8_set 80 = .ok (.ireturn, 1) := by decide +kernel
theorem dX8_set_81 : decode cX8_set 81 = .ok (.aload_n 0, 1) := by decide +kernel
theorem dX8_set_82 : decode cX8_set 82 = .ok (.getfield 25, 3) := by decide +kernel
theorem dX8_set_85 : decode cX8_set 85 = .ok (.aload_n 0, 1) := by decide +kernel
theorem dX8_set_86 : decode cX8_set 86 = .ok (.getfield 10, 3) := by decide +kernel
theorem dX8_set_89 : decode cX8_set 89 = .ok (.invokevirtual 55, 3) := by decide +kernel
theorem dX8_set_92 : decode cX8_set 92 = .ok (.aload_n 0, 1) := by decide +kernel
theorem dX8_set_93 : decode cX8_set 93 = .ok (.getfield 10, 3) := by decide +kernel
theorem dX8_set_96 : decode cX8_set 96 = .ok (.getfield 77, 3) := by decide +kernel
theorem dX8_set_99 : decode cX8_set 99 = .ok (.iload_n 1, 1) := by decide +kernel
theorem dX8_set_100 : decode cX8_set 100 = .ok (.iload_n 2, 1) := by decide +kernel
theorem dX8_set_101 : decode cX8_set 101 = .ok (.iastore, 1) := by decide +kernel
theorem dX8_set_102 : decode cX8_set 102 = .ok (.iload_n 3, 1) := by decide +kernel
theorem dX8_set_103 : decode cX8_set 103 = .ok (.ireturn, 1) := by decide +kernel
theorem dX8_power_0 : decode cX8_power 0 = .ok (.aload_n 0, 1) := by decide +kernel
theorem dX8_power_1 : decode cX8_power 1 = .ok (.getfield 10, 3) := by decide +kernel
theorem dX8_power_4 : decode cX8_power 4 = .ok (.getfield 80, 3) := by decide +kernel
theorem dX8_power_7 : decode cX8_power 7 = .ok (.iload_n 1, 1) := by decide +kernel
theorem dX8_power_8 : decode cX8_power 8 = .ok (.if_icmp .ne 6, 3) := by decide +kernel
theorem dX8_power_11 : decode cX8_power 11 = .ok (.bipush (-5), 2) := by decide +kernel
theorem dX8_power_13 : decode cX8_power 13 = .ok (.ireturn, 1) := by decide +kernel
theorem dX8_power_14 : decode cX8_power 14 = .ok (.aload_n 0, 1) := by decide +kernel
theorem dX8_power_15 : decode cX8_power 15 = .ok (.getfield 25, 3) := by decide +kernel
theorem dX8_power_18 : decode cX8_power 18 = .ok (.aload_n 0, 1) := by decide +kernel
theorem dX8_power_19 : decode cX8_power 19 = .ok (.getfield 10, 3) := by decide +kernel
theorem dX8_power_22 : decode cX8_power 22 = .ok (.invokevirtual 55, 3) := by decide +kernel
theorem dX8_power_25 : decode cX8_power 25 = .ok (.aload_n 0, 1) := by decide +kernel
theorem dX8_power_26 : decode cX8_power 26 = .ok (.getfield 10, 3) := by decide +kernel
theorem dX8_power_29 : decode cX8_power 29 = .ok (.iload_n 1, 1) := by decide +kernel
theorem dX8_power_30 : decode cX8_power 30 = .ok (.invokevirtual 83, 3) := by decide +kernel
theorem dX8_power_33 : decode cX8_power 33 = .ok (.aload_n 0, 1) := by decide +kernel
theorem dX8_power_34 : decode cX8_power 34 = .ok (.getfield 10, 3) := by decide +kernel
theorem dX8_power_37 : decode cX8_power 37 = .ok (.iconst 1, 1) := by decide +kernel
theorem dX8_power_38 : decode cX8_power 38 = .ok (.invokevirtual 87, 3) := by decide +kernel
theorem dX8_power_41 : decode cX8_power 41 = .ok (.ireturn, 1) := by decide +kernel
theorem dX8_pass_0 : decode cX8_pass 0 = .ok (.iload_n 1, 1) := by decide +kernel
theorem dX8_pass_1 : decode cX8_pass 1 = .ok (.iconst 1, 1) := by decide +kernel
theorem dX8_pass_2 : decode cX8_pass 2 = .ok (.bipush 60, 2) := by decide +kernel
theorem dX8_pass_4 : decode cX8_pass 4 = .ok (.invokestatic 47, 3) := by decide +kernel
theorem dX8_pass_7 : decode cX8_pass 7 = .ok (.ifCond .ne 6, 3) := by decide +kernel
theorem dX8_pass_10 : decode cX8_pass 10 = .ok (.bipush (-2), 2) := by decide +kernel
theorem dX8_pass_12 : decode cX8_pass 12 = .ok (.ireturn, 1) := by decide +kernel
theorem dX8_pass_13 : decode cX8_pass 13 = .ok (.aload_n 0, 1) := by decide +kernel
theorem dX8_pass_14 : decode cX8_pass 14 = .ok (.getfield 25, 3) := by decide +kernel
theorem dX8_pass_17 : decode cX8_pass 17 = .ok (.aload_n 0, 1) := by decide +kernel
theorem dX8_pass_18 : decode cX8_pass 18 = .ok (.getfield 10, 3) := by decide +kernel
theorem dX8_pass_21 : decode cX8_pass 21 = .ok (.invokevirtual 55, 3) := by decide +kernel
theorem dX8_pass_24 : decode cX8_pass 24 = .ok (.iconst 0, 1) := by decide +kernel
theorem dX8_pass_25 : decode cX8_pass 25 = .ok (.istore_n 2, 1) := by decide +kernel
theorem dX8_pass_26 : decode cX8_pass 26 = .ok (.iconst 0, 1) := by decide +kernel
theorem dX8_pass_27 : decode cX8_pass 27 = .ok (.istore_n 3, 1) := by decide +kernel
theorem dX8_pass_28 : decode cX8_pass 28 = .ok (.iload_n 3, 1) := by decide +kernel
theorem dX8_pass_29 : decode cX8_pass 29 = .ok (.iload_n 1, 1) := by decide +kernel
theorem dX8_pass_30 : decode cX8_pass 30 = .ok (.if_icmp .ge 23, 3) := by decide +kernel
theorem dX8_pass_33 : decode cX8_pass 33 = .ok (.iload_n 2, 1) := by decide +kernel
theorem dX8_pass_34 : decode cX8_pass 34 = .ok (.aload_n 0, 1) := by decide +kernel
theorem dX8_pass_35 : decode cX8_pass 35 = .ok (.getfield 10, 3) := by decide +kernel
theorem dX8_pass_38 : decode cX8_pass 38 = .ok (.aload_n 0, 1) := by decide +kernel
theorem dX8_pass_39 : decode cX8_pass 39 = .ok (.getfield 32, 3) := by decide +kernel
theorem dX8_pass_42 : decode cX8_pass 42 = .ok (.invokevirtual 91, 3) := by decide +kernel
theorem dX8_pass_45 : decode cX8_pass 45 = .ok (.iadd, 1) := by decide +kernel
theorem dX8_pass_46 : decode cX8_pass 46 = .ok (.istore_n 2, 1) := by decide +kernel
theorem dX8_pass_47 : decode cX8_pass 47 = .ok (.iinc 3 1, 3) := by decide +kernel
theorem dX8_pass_50 : decode cX8_pass 50 = .ok (.goto (-22), 3) := by decide +kernel
theorem dX8_pass_53 : decode cX8_pass 53 = .ok (.iload_n 2, 1) := by decide +kernel
theorem dX8_pass_54 : decode cX8_pass 54 = .ok (.ireturn, 1) := by decide +kernel
theorem dX8_type_0 : decode cX8_type 0 = .ok (.aload_n 0, 1) := by decide +kernel
theorem dX8_type_1 : decode cX8_type 1 = .ok (.getfield 39, 3) := by decide +kernel
theorem dX8_type_4 : decode cX8_type 4 = .ok (.iload_n 1, 1) := by decide +kernel
theorem dX8_type_5 : decode cX8_type 5 = .ok (.invokevirtual 95, 3) := by decide +kernel
theorem dX8_type_8 : decode cX8_type 8 = .ok (.ifCond .eq 13, 3) := by decide +kernel
theorem dX8_type_11 : decode cX8_type 11 = .ok (.aload_n 0, 1) := by decide +kernel
theorem dX8_type_12 : decode cX8_type 12 = .ok (.getfield 39, 3) := by decide +kernel
theorem dX8_type_15 : decode cX8_type 15 = .ok (.getfield 99, 3) := by decide +kernel
theorem dX8_type_18 : decode cX8_type 18 = .ok (.goto 5, 3) := by decide +kernel
theorem dX8_type_21 : decode cX8_type 21 = .ok (.bipush (-3), 2) := by decide +kernel
theorem dX8_type_23 : decode cX8_type 23 = .ok (.ireturn, 1) := by decide +kernel
theorem dX8_clearText_0 : decode cX8_clearText 0 = .ok (.aload_n 0, 1) := by decide +kernel
theorem dX8_clearText_1 : decode cX8_clearText 1 = .ok (.getfield 39, 3) := by decide +kernel
theorem dX8_clearText_4 : decode cX8_clearText 4 = .ok (.getfield 99, 3) := by decide +kernel
theorem dX8_clearText_7 : decode cX8_clearText 7 = .ok (.istore_n 1, 1) := by decide +kernel
theorem dX8_clearText_8 : decode cX8_clearText 8 = .ok (.aload_n 0, 1) := by decide +kernel
theorem dX8_clearText_9 : decode cX8_clearText 9 = .ok (.getfield 39, 3) := by decide +kernel
theorem dX8_clearText_12 : decode cX8_clearText 12 = .ok (.iconst 0, 1) := by decide +kernel
theorem dX8_clearText_13 : decode cX8_clearText 13 = .ok (.putfield 99, 3) := by decide +kernel
theorem dX8_clearText_16 : decode cX8_clearText 16 = .ok (.iload_n 1, 1) := by decide +kernel
theorem dX8_clearText_17 : decode cX8_clearText 17 = .ok (.ireturn, 1) := by decide +kernel
theorem dX8_readProgram_0 : decode cX8_readProgram 0 = .ok (.aload_n 0, 1) := by decide +kernel
theorem dX8_readProgram_1 : decode cX8_readProgram 1 = .ok (.getfield 10, 3) := by decide +kernel
theorem dX8_readProgram_4 : decode cX8_readProgram 4 = .ok (.iload_n 1, 1) := by decide +kernel
theorem dX8_readProgram_5 : decode cX8_readProgram 5 = .ok (.invokevirtual 102, 3) := by decide +kernel
theorem dX8_readProgram_8 : decode cX8_readProgram 8 = .ok (.ifCond .ne 5, 3) := by decide +kernel
theorem dX8_readProgram_11 : decode cX8_readProgram 11 = .ok (.iconst (-1), 1) := by decide +kernel
theorem dX8_readProgram_12 : decode cX8_readProgram 12 = .ok (.ireturn, 1) := by decide +kernel
theorem dX8_readProgram_13 : decode cX8_readProgram 13 = .ok (.aload_n 0, 1) := by decide +kernel
theorem dX8_readProgram_14 : decode cX8_readProgram 14 = .ok (.getfield 39, 3) := by decide +kernel
theorem dX8_readProgram_17 : decode cX8_readProgram 17 = .ok (.invokevirtual 105, 3) := by decide +kernel
theorem dX8_readProgram_20 : decode cX8_readProgram 20 = .ok (.istore_n 2, 1) := by decide +kernel
theorem dX8_readProgram_21 : decode cX8_readProgram 21 = .ok (.iload_n 2, 1) := by decide +kernel
theorem dX8_readProgram_22 : decode cX8_readProgram 22 = .ok (.bipush (-5), 2) := by decide +kernel
theorem dX8_readProgram_24 : decode cX8_readProgram 24 = .ok (.if_icmp .eq 8, 3) := by decide +kernel
theorem dX8_readProgram_27 : decode cX8_readProgram 27 = .ok (.bipush (-100), 2) := by decide +kernel
theorem dX8_readProgram_29 : decode cX8_readProgram 29 = .ok (.iload_n 2, 1) := by decide +kernel
theorem dX8_readProgram_30 : decode cX8_readProgram 30 = .ok (.isub, 1) := by decide +kernel
theorem dX8_readProgram_31 : decode cX8_readProgram 31 = .ok (.ireturn, 1) := by decide +kernel
theorem dX8_readProgram_32 : decode cX8_readProgram 32 = .ok (.aload_n 0, 1) := by decide +kernel
theorem dX8_readProgram_33 : decode cX8_readProgram 33 = .ok (.getfield 39, 3) := by decide +kernel
theorem dX8_readProgram_36 : decode cX8_readProgram 36 = .ok (.invokevirtual 109, 3) := by decide +kernel
theorem dX8_readProgram_39 : decode cX8_readProgram 39 = .ok (.astore_n 3, 1) := by decide +kernel
theorem dX8_readProgram_40 : decode cX8_readProgram 40 = .ok (.aload_n 3, 1) := by decide +kernel
theorem dX8_readProgram_41 : decode cX8_readProgram 41 = .ok (.invokevirtual 113, 3) := by decide +kernel
theorem dX8_readProgram_44 : decode cX8_readProgram 44 = .ok (.ifCond .ne 6, 3) := by decide +kernel
theorem dX8_readProgram_47 : decode cX8_readProgram 47 = .ok (.bipush (-2), 2) := by decide +kernel
theorem dX8_readProgram_49 : decode cX8_readProgram 49 = .ok (.ireturn, 1) := by decide +kernel
theorem dX8_readProgram_50 : decode cX8_readProgram 50 = .ok (.aload_n 3, 1) := by decide +kernel
theorem dX8_readProgram_51 : decode cX8_readProgram 51 = .ok (.getfield 119, 3) := by decide +kernel
theorem dX8_readProgram_54 : decode cX8_readProgram 54 = .ok (.bipush 12, 2) := by decide +kernel
theorem dX8_readProgram_56 : decode cX8_readProgram 56 = .ok (.if_icmp .le 6, 3) := by decide +kernel
theorem dX8_readProgram_59 : decode cX8_readProgram 59 = .ok (.bipush (-3), 2) := by decide +kernel
theorem dX8_readProgram_61 : decode cX8_readProgram 61 = .ok (.ireturn, 1) := by decide +kernel
theorem dX8_readProgram_62 : decode cX8_readProgram 62 = .ok (.aload_n 0, 1) := by decide +kernel
theorem dX8_readProgram_63 : decode cX8_readProgram 63 = .ok (.getfield 10, 3) := by decide +kernel
theorem dX8_readProgram_66 : decode cX8_readProgram 66 = .ok (.iload_n 1, 1) := by decide +kernel
theorem dX8_readProgram_67 : decode cX8_readProgram 67 = .ok (.invokevirtual 120, 3) := by decide +kernel
theorem dX8_readProgram_70 : decode cX8_readProgram 70 = .ok (.getfield 124, 3) := by decide +kernel
theorem dX8_readProgram_73 : decode cX8_readProgram 73 = .ok (.iconst 1, 1) := by decide +kernel
theorem dX8_readProgram_74 : decode cX8_readProgram 74 = .ok (.if_icmp .ne 6, 3) := by decide +kernel
theorem dX8_readProgram_77 : decode cX8_readProgram 77 = .ok (.bipush (-4), 2) := by decide +kernel
theorem dX8_readProgram_79 : decode cX8_readProgram 79 = .ok (.ireturn, 1) := by decide +kernel
theorem dX8_readProgram_80 : decode cX8_readProgram 80 = .ok (.aload_n 0, 1) := by decide +kernel
theorem dX8_readProgram_81 : decode cX8_readProgram 81 = .ok (.getfield 25, 3) := by decide +kernel
theorem dX8_readProgram_84 : decode cX8_readProgram 84 = .ok (.aload_n 0, 1) := by decide +kernel
theorem dX8_readProgram_85 : decode cX8_readProgram 85 = .ok (.getfield 10, 3) := by decide +kernel
theorem dX8_readProgram_88 : decode cX8_readProgram 88 = .ok (.invokevirtual 55, 3) := by decide +kernel
theorem dX8_readProgram_91 : decode cX8_readProgram 91 = .ok (.aload_n 0, 1) := by decide +kernel
theorem dX8_readProgram_92 : decode cX8_readProgram 92 = .ok (.getfield 10, 3) := by decide +kernel
theorem dX8_readProgram_95 : decode cX8_readProgram 95 = .ok (.iload_n 1, 1) := by decide +kernel
theorem dX8_readProgram_96 : decode cX8_readProgram 96 = .ok (.invokevirtual 120, 3) := by decide +kernel
theorem dX8_readProgram_99 : decode cX8_readProgram 99 = .ok (.aload_n 3, 1) := by decide +kernel
theorem dX8_readProgram_100 : decode cX8_readProgram 100 = .ok (.putfield 129, 3) := by decide +kernel
theorem dX8_readProgram_103 : decode cX8_readProgram 103 = .ok (.aload_n 3, 1) := by decide +kernel
theorem dX8_readProgram_104 : decode cX8_readProgram 104 = .ok (.getfield 119, 3) := by decide +kernel
theorem dX8_readProgram_107 : decode cX8_readProgram 107 = .ok (.ireturn, 1) := by decide +kernel
theorem dX8_start_0 : decode cX8_start 0 = .ok (.aload_n 0, 1) := by decide +kernel
theorem dX8_start_1 : decode cX8_start 1 = .ok (.getfield 10, 3) := by decide +kernel
theorem dX8_start_4 : decode cX8_start 4 = .ok (.iload_n 1, 1) := by decide +kernel
theorem dX8_start_5 : decode cX8_start 5 = .ok (.invokevirtual 102, 3) := by decide +kernel
theorem dX8_start_8 : decode cX8_start 8 = .ok (.ifCond .ne 5, 3) := by decide +kernel
theorem dX8_start_11 : decode cX8_start 11 = .ok (.iconst (-1), 1) := by decide +kernel
theorem dX8_start_12 : decode cX8_start 12 = .ok (.ireturn, 1) := by decide +kernel
theorem dX8_start_13 : decode cX8_start 13 = .ok (.aload_n 0, 1) := by decide +kernel
theorem dX8_start_14 : decode cX8_start 14 = .ok (.getfield 10, 3) := by decide +kernel
theorem dX8_start_17 : decode cX8_start 17 = .ok (.iload_n 1, 1) := by decide +kernel
theorem dX8_start_18 : decode cX8_start 18 = .ok (.invokevirtual 120, 3) := by decide +kernel
theorem dX8_start_21 : decode cX8_start 21 = .ok (.astore_n 2, 1) := by decide +kernel
theorem dX8_start_22 : decode cX8_start 22 = .ok (.aload_n 0, 1) := by decide +kernel
theorem dX8_start_23 : decode cX8_start 23 = .ok (.getfield 10, 3) := by decide +kernel
theorem dX8_start_26 : decode cX8_start 26 = .ok (.getfield 80, 3) := by decide +kernel
theorem dX8_start_29 : decode cX8_start 29 = .ok (.ifCond .eq 10, 3) := by decide +kernel
theorem dX8_start_32 : decode cX8_start 32 = .ok (.aload_n 2, 1) := by decide +kernel
theorem dX8_start_33 : decode cX8_start 33 = .ok (.invokevirtual 133, 3) := by decide +kernel
theorem dX8_start_36 : decode cX8_start 36 = .ok (.ifCond .ne 6, 3) := by decide +kernel
theorem dX8_start_39 : decode cX8_start 39 = .ok (.bipush (-4), 2) := by decide +kernel
theorem dX8_start_41 : decode cX8_start 41 = .ok (.ireturn, 1) := by decide +kernel
theorem dX8_start_42 : decode cX8_start 42 = .ok (.aload_n 0, 1) := by decide +kernel
theorem dX8_start_43 : decode cX8_start 43 = .ok (.getfield 25, 3) := by decide +kernel
theorem dX8_start_46 : decode cX8_start 46 = .ok (.aload_n 0, 1) := by decide +kernel
theorem dX8_start_47 : decode cX8_start 47 = .ok (.getfield 10, 3) := by decide +kernel
theorem dX8_start_50 : decode cX8_start 50 = .ok (.invokevirtual 55, 3) := by decide +kernel
theorem dX8_start_53 : decode cX8_start 53 = .ok (.aload_n 2, 1) := by decide +kernel
theorem dX8_start_54 : decode cX8_start 54 = .ok (.invokevirtual 136, 3) := by decide +kernel
theorem dX8_start_57 : decode cX8_start 57 = .ok (.aload_n 2, 1) := by decide +kernel
theorem dX8_start_58 : decode cX8_start 58 = .ok (.getfield 129, 3) := by decide +kernel
theorem dX8_start_61 : decode cX8_start 61 = .ok (.getfield 119, 3) := by decide +kernel
theorem dX8_start_64 : decode cX8_start 64 = .ok (.ireturn, 1) := by decide +kernel
theorem dX8_stop_0 : decode cX8_stop 0 = .ok (.aload_n 0, 1) := by decide +kernel
theorem dX8_stop_1 : decode cX8_stop 1 = .ok (.getfield 10, 3) := by decide +kernel
theorem dX8_stop_4 : decode cX8_stop 4 = .ok (.iload_n 1, 1) := by decide +kernel
theorem dX8_stop_5 : decode cX8_stop 5 = .ok (.invokevirtual 102, 3) := by decide +kernel
theorem dX8_stop_8 : decode cX8_stop 8 = .ok (.ifCond .ne 5, 3) := by decide +kernel
theorem dX8_stop_11 : decode cX8_stop 11 = .ok (.iconst (-1), 1) := by decide +kernel
theorem dX8_stop_12 : decode cX8_stop 12 = .ok (.ireturn, 1) := by decide +kernel
theorem dX8_stop_13 : decode cX8_stop 13 = .ok (.aload_n 0, 1) := by decide +kernel
theorem dX8_stop_14 : decode cX8_stop 14 = .ok (.getfield 10, 3) := by decide +kernel
theorem dX8_stop_17 : decode cX8_stop 17 = .ok (.iload_n 1, 1) := by decide +kernel
theorem dX8_stop_18 : decode cX8_stop 18 = .ok (.invokevirtual 120, 3) := by decide +kernel
theorem dX8_stop_21 : decode cX8_stop 21 = .ok (.astore_n 2, 1) := by decide +kernel
theorem dX8_stop_22 : decode cX8_stop 22 = .ok (.aload_n 2, 1) := by decide +kernel
theorem dX8_stop_23 : decode cX8_stop 23 = .ok (.getfield 124, 3) := by decide +kernel
theorem dX8_stop_26 : decode cX8_stop 26 = .ok (.ifCond .ne 6, 3) := by decide +kernel
theorem dX8_stop_29 : decode cX8_stop 29 = .ok (.bipush (-5), 2) := by decide +kernel
theorem dX8_stop_31 : decode cX8_stop 31 = .ok (.ireturn, 1) := by decide +kernel
theorem dX8_stop_32 : decode cX8_stop 32 = .ok (.aload_n 0, 1) := by decide +kernel
theorem dX8_stop_33 : decode cX8_stop 33 = .ok (.getfield 25, 3) := by decide +kernel
theorem dX8_stop_36 : decode cX8_stop 36 = .ok (.aload_n 0, 1) := by decide +kernel
theorem dX8_stop_37 : decode cX8_stop 37 = .ok (.getfield 10, 3) := by decide +kernel
theorem dX8_stop_40 : decode cX8_stop 40 = .ok (.invokevirtual 55, 3) := by decide +kernel
theorem dX8_stop_43 : decode cX8_stop 43 = .ok (.aload_n 2, 1) := by decide +kernel
theorem dX8_stop_44 : decode cX8_stop 44 = .ok (.iconst 0, 1) := by decide +kernel
theorem dX8_stop_45 : decode cX8_stop 45 = .ok (.putfield 124, 3) := by decide +kernel
theorem dX8_stop_48 : decode cX8_stop 48 = .ok (.aload_n 2, 1) := by decide +kernel
theorem dX8_stop_49 : decode cX8_stop 49 = .ok (.getfield 139, 3) := by decide +kernel
theorem dX8_stop_52 : decode cX8_stop 52 = .ok (.ireturn, 1) := by decide +kernel
theorem dX8_openDoor_0 : decode cX8_openDoor 0 = .ok (.aload_n 0, 1) := by decide +kernel
theorem dX8_openDoor_1 : decode cX8_openDoor 1 = .ok (.getfield 10, 3) := by decide +kernel
theorem dX8_openDoor_4 : decode cX8_openDoor 4 = .ok (.iload_n 1, 1) := by decide +kernel
theorem dX8_openDoor_5 : decode cX8_openDoor 5 = .ok (.invokevirtual 102, 3) := by decide +kernel
theorem dX8_openDoor_8 : decode cX8_openDoor 8 = .ok (.ifCond .ne 5, 3) := by decide +kernel
theorem dX8_openDoor_11 : decode cX8_openDoor 11 = .ok (.iconst (-1), 1) := by decide +kernel
theorem dX8_openDoor_12 : decode cX8_openDoor 12 = .ok (.ireturn, 1) := by decide +kernel
theorem dX8_openDoor_13 : decode cX8_openDoor 13 = .ok (.aload_n 0, 1) := by decide +kernel
theorem dX8_openDoor_14 : decode cX8_openDoor 14 = .ok (.getfield 10, 3) := by decide +kernel
theorem dX8_openDoor_17 : decode cX8_openDoor 17 = .ok (.iload_n 1, 1) := by decide +kernel
theorem dX8_openDoor_18 : decode cX8_openDoor 18 = .ok (.invokevirtual 120, 3) := by decide +kernel
theorem dX8_openDoor_21 : decode cX8_openDoor 21 = .ok (.astore_n 2, 1) := by decide +kernel
theorem dX8_openDoor_22 : decode cX8_openDoor 22 = .ok (.aload_n 2, 1) := by decide +kernel
theorem dX8_openDoor_23 : decode cX8_openDoor 23 = .ok (.getfield 149, 3) := by decide +kernel
theorem dX8_openDoor_26 : decode cX8_openDoor 26 = .ok (.iconst 2, 1) := by decide +kernel
theorem dX8_openDoor_27 : decode cX8_openDoor 27 = .ok (.if_icmp .ne 6, 3) := by decide +kernel
theorem dX8_openDoor_30 : decode cX8_openDoor 30 = .ok (.bipush (-4), 2) := by decide +kernel
theorem dX8_openDoor_32 : decode cX8_openDoor 32 = .ok (.ireturn, 1) := by decide +kernel
theorem dX8_openDoor_33 : decode cX8_openDoor 33 = .ok (.aload_n 2, 1) := by decide +kernel
theorem dX8_openDoor_34 : decode cX8_openDoor 34 = .ok (.getfield 149, 3) := by decide +kernel
theorem dX8_openDoor_37 : decode cX8_openDoor 37 = .ok (.ifCond .ne 6, 3) := by decide +kernel
theorem dX8_openDoor_40 : decode cX8_openDoor 40 = .ok (.bipush (-5), 2) := by decide +kernel
theorem dX8_openDoor_42 : decode cX8_openDoor 42 = .ok (.ireturn, 1) := by decide +kernel
theorem dX8_openDoor_43 : decode cX8_openDoor 43 = .ok (.aload_n 0, 1) := by decide +kernel
theorem dX8_openDoor_44 : decode cX8_openDoor 44 = .ok (.getfield 25, 3) := by decide +kernel
theorem dX8_openDoor_47 : decode cX8_openDoor 47 = .ok (.aload_n 0, 1) := by decide +kernel
theorem dX8_openDoor_48 : decode cX8_openDoor 48 = .ok (.getfield 10, 3) := by decide +kernel
theorem dX8_openDoor_51 : decode cX8_openDoor 51 = .ok (.invokevirtual 55, 3) := by decide +kernel
theorem dX8_openDoor_54 : decode cX8_openDoor 54 = .ok (.aload_n 2, 1) := by decide +kernel
theorem dX8_openDoor_55 : decode cX8_openDoor 55 = .ok (.iconst 0, 1) := by decide +kernel
theorem dX8_openDoor_56 : decode cX8_openDoor 56 = .ok (.putfield 149, 3) := by decide +kernel
theorem dX8_openDoor_59 : decode cX8_openDoor 59 = .ok (.aload_n 2, 1) := by decide +kernel
theorem dX8_openDoor_60 : decode cX8_openDoor 60 = .ok (.invokevirtual 152, 3) := by decide +kernel
theorem dX8_openDoor_63 : decode cX8_openDoor 63 = .ok (.ireturn, 1) := by decide +kernel
theorem dX8_closeDoor_0 : decode cX8_closeDoor 0 = .ok (.aload_n 0, 1) := by decide +kernel
theorem dX8_closeDoor_1 : decode cX8_closeDoor 1 = .ok (.getfield 10, 3) := by decide +kernel
theorem dX8_closeDoor_4 : decode cX8_closeDoor 4 = .ok (.iload_n 1, 1) := by decide +kernel
theorem dX8_closeDoor_5 : decode cX8_closeDoor 5 = .ok (.invokevirtual 102, 3) := by decide +kernel
theorem dX8_closeDoor_8 : decode cX8_closeDoor 8 = .ok (.ifCond .ne 5, 3) := by decide +kernel
theorem dX8_closeDoor_11 : decode cX8_closeDoor 11 = .ok (.iconst (-1), 1) := by decide +kernel
theorem dX8_closeDoor_12 : decode cX8_closeDoor 12 = .ok (.ireturn, 1) := by decide +kernel
theorem dX8_closeDoor_13 : decode cX8_closeDoor 13 = .ok (.aload_n 0, 1) := by decide +kernel
theorem dX8_closeDoor_14 : decode cX8_closeDoor 14 = .ok (.getfield 10, 3) := by decide +kernel
theorem dX8_closeDoor_17 : decode cX8_closeDoor 17 = .ok (.iload_n 1, 1) := by decide +kernel
theorem dX8_closeDoor_18 : decode cX8_closeDoor 18 = .ok (.invokevirtual 120, 3) := by decide +kernel
theorem dX8_closeDoor_21 : decode cX8_closeDoor 21 = .ok (.astore_n 2, 1) := by decide +kernel
theorem dX8_closeDoor_22 : decode cX8_closeDoor 22 = .ok (.aload_n 2, 1) := by decide +kernel
theorem dX8_closeDoor_23 : decode cX8_closeDoor 23 = .ok (.getfield 149, 3) := by decide +kernel
theorem dX8_closeDoor_26 : decode cX8_closeDoor 26 = .ok (.ifCond .eq 6, 3) := by decide +kernel
theorem dX8_closeDoor_29 : decode cX8_closeDoor 29 = .ok (.bipush (-5), 2) := by decide +kernel
theorem dX8_closeDoor_31 : decode cX8_closeDoor 31 = .ok (.ireturn, 1) := by decide +kernel
theorem dX8_closeDoor_32 : decode cX8_closeDoor 32 = .ok (.aload_n 0, 1) := by decide +kernel
theorem dX8_closeDoor_33 : decode cX8_closeDoor 33 = .ok (.getfield 25, 3) := by decide +kernel
theorem dX8_closeDoor_36 : decode cX8_closeDoor 36 = .ok (.aload_n 0, 1) := by decide +kernel
theorem dX8_closeDoor_37 : decode cX8_closeDoor 37 = .ok (.getfield 10, 3) := by decide +kernel
theorem dX8_closeDoor_40 : decode cX8_closeDoor 40 = .ok (.invokevirtual 55, 3) := by decide +kernel
theorem dX8_closeDoor_43 : decode cX8_closeDoor 43 = .ok (.aload_n 2, 1) := by decide +kernel
theorem dX8_closeDoor_44 : decode cX8_closeDoor 44 = .ok (.iconst 1, 1) := by decide +kernel
theorem dX8_closeDoor_45 : decode cX8_closeDoor 45 = .ok (.putfield 149, 3) := by decide +kernel
theorem dX8_closeDoor_48 : decode cX8_closeDoor 48 = .ok (.iconst 1, 1) := by decide +kernel
theorem dX8_closeDoor_49 : decode cX8_closeDoor 49 = .ok (.ireturn, 1) := by decide +kernel
theorem dX8_haggle_0 : decode cX8_haggle 0 = .ok (.aload_n 0, 1) := by decide +kernel
theorem dX8_haggle_1 : decode cX8_haggle 1 = .ok (.getfield 10, 3) := by decide +kernel
theorem dX8_haggle_4 : decode cX8_haggle 4 = .ok (.iload_n 1, 1) := by decide +kernel
theorem dX8_haggle_5 : decode cX8_haggle 5 = .ok (.invokevirtual 102, 3) := by decide +kernel
theorem dX8_haggle_8 : decode cX8_haggle 8 = .ok (.ifCond .eq 14, 3) := by decide +kernel
theorem dX8_haggle_11 : decode cX8_haggle 11 = .ok (.aload_n 0, 1) := by decide +kernel
theorem dX8_haggle_12 : decode cX8_haggle 12 = .ok (.getfield 10, 3) := by decide +kernel
theorem dX8_haggle_15 : decode cX8_haggle 15 = .ok (.iload_n 2, 1) := by decide +kernel
theorem dX8_haggle_16 : decode cX8_haggle 16 = .ok (.invokevirtual 102, 3) := by decide +kernel
theorem dX8_haggle_19 : decode cX8_haggle 19 = .ok (.ifCond .ne 5, 3) := by decide +kernel
theorem dX8_haggle_22 : decode cX8_haggle 22 = .ok (.iconst (-1), 1) := by decide +kernel
theorem dX8_haggle_23 : decode cX8_haggle 23 = .ok (.ireturn, 1) := by decide +kernel
theorem dX8_haggle_24 : decode cX8_haggle 24 = .ok (.iload_n 3, 1) := by decide +kernel
theorem dX8_haggle_25 : decode cX8_haggle 25 = .ok (.iconst 1, 1) := by decide +kernel
theorem dX8_haggle_26 : decode cX8_haggle 26 = .ok (.bipush 20, 2) := by decide +kernel
theorem dX8_haggle_28 : decode cX8_haggle 28 = .ok (.invokestatic 47, 3) := by decide +kernel
theorem dX8_haggle_31 : decode cX8_haggle 31 = .ok (.ifCond .eq 32, 3) := by decide +kernel
theorem dX8_haggle_34 : decode cX8_haggle 34 = .ok (.iload 4, 2) := by decide +kernel
theorem dX8_haggle_36 : decode cX8_haggle 36 = .ok (.iconst 1, 1) := by decide +kernel
theorem dX8_haggle_37 : decode cX8_haggle 37 = .ok (.sipush 9999, 3) := by decide +kernel
theorem dX8_haggle_40 : decode cX8_haggle 40 = .ok (.invokestatic 47, 3) := by decide +kernel
theorem dX8_haggle_43 : decode cX8_haggle 43 = .ok (.ifCond .eq 20, 3) := by decide +kernel
theorem dX8_haggle_46 : decode cX8_haggle 46 = .ok (.iload 5, 2) := by decide +kernel
theorem dX8_haggle_48 : decode cX8_haggle 48 = .ok (.iconst 1, 1) := by decide +kernel
theorem dX8_haggle_49 : decode cX8_haggle 49 = .ok (.sipush 240, 3) := by decide +kernel
theorem dX8_haggle_52 : decode cX8_haggle 52 = .ok (.invokestatic 47, 3) := by decide +kernel
theorem dX8_haggle_55 : decode cX8_haggle 55 = .ok (.ifCond .eq 8, 3) := by decide +kernel
theorem dX8_haggle_58 : decode cX8_haggle 58 = .ok (.iload_n 1, 1) := by decide +kernel
theorem dX8_haggle_59 : decode cX8_haggle 59 = .ok (.iload_n 2, 1) := by decide +kernel
theorem dX8_haggle_60 : decode cX8_haggle 60 = .ok (.if_icmp .ne 6, 3) := by decide +kernel
theorem dX8_haggle_63 : decode cX8_haggle 63 = .ok (.bipush (-2), 2) := by decide +kernel
theorem dX8_haggle_65 : decode cX8_haggle 65 = .ok (.ireturn, 1) := by decide +kernel
theorem dX8_haggle_66 : decode cX8_haggle 66 = .ok (.aload_n 0, 1) := by decide +kernel
theorem dX8_haggle_67 : decode cX8_haggle 67 = .ok (.getfield 10, 3) := by decide +kernel
theorem dX8_haggle_70 : decode cX8_haggle 70 = .ok (.iload_n 2, 1) := by decide +kernel
theorem dX8_haggle_71 : decode cX8_haggle 71 = .ok (.invokevirtual 155, 3) := by decide +kernel
theorem dX8_haggle_74 : decode cX8_haggle 74 = .ok (.iload_n 3, 1) := by decide +kernel
theorem dX8_haggle_75 : decode cX8_haggle 75 = .ok (.if_icmp .lt 20, 3) := by decide +kernel
theorem dX8_haggle_78 : decode cX8_haggle 78 = .ok (.aload_n 0, 1) := by decide +kernel
theorem dX8_haggle_79 : decode cX8_haggle 79 = .ok (.getfield 10, 3) := by decide +kernel
theorem dX8_haggle_82 : decode cX8_haggle 82 = .ok (.getfield 158, 3) := by decide +kernel
theorem dX8_haggle_85 : decode cX8_haggle 85 = .ok (.iload_n 1, 1) := by decide +kernel
theorem dX8_haggle_86 : decode cX8_haggle 86 = .ok (.aaload, 1) := by decide +kernel
theorem dX8_haggle_87 : decode cX8_haggle 87 = .ok (.getfield 162, 3) := by decide +kernel
theorem dX8_haggle_90 : decode cX8_haggle 90 = .ok (.iload 4, 2) := by decide +kernel
theorem dX8_haggle_92 : decode cX8_haggle 92 = .ok (.if_icmp .ge 6, 3) := by decide +kernel
theorem dX8_haggle_95 : decode cX8_haggle 95 = .ok (.bipush (-4), 2) := by decide +kernel
theorem dX8_haggle_97 : decode cX8_haggle 97 = .ok (.ireturn, 1) := by decide +kernel
theorem dX8_haggle_98 : decode cX8_haggle 98 = .ok (.aload_n 0, 1) := by decide +kernel
theorem dX8_haggle_99 : decode cX8_haggle 99 = .ok (.getfield 10, 3) := by decide +kernel
theorem dX8_haggle_102 : decode cX8_haggle 102 = .ok (.getfield 167, 3) := by decide +kernel
theorem dX8_haggle_105 : decode cX8_haggle 105 = .ok (.bipush 10, 2) := by decide +kernel
theorem dX8_haggle_107 : decode cX8_haggle 107 = .ok (.if_icmp .lt 6, 3) := by decide +kernel
theorem dX8_haggle_110 : decode cX8_haggle 110 = .ok (.bipush (-3), 2) := by decide +kernel
theorem dX8_haggle_112 : decode cX8_haggle 112 = .ok (.ireturn, 1) := by decide +kernel
theorem dX8_haggle_113 : decode cX8_haggle 113 = .ok (.aload_n 0, 1) := by decide +kernel
theorem dX8_haggle_114 : decode cX8_haggle 114 = .ok (.getfield 25, 3) := by decide +kernel
theorem dX8_haggle_117 : decode cX8_haggle 117 = .ok (.aload_n 0, 1) := by decide +kernel
theorem dX8_haggle_118 : decode cX8_haggle 118 = .ok (.getfield 10, 3) := by decide +kernel
theorem dX8_haggle_121 : decode cX8_haggle 121 = .ok (.invokevirtual 55, 3) := by decide +kernel
theorem dX8_haggle_124 : decode cX8_haggle 124 = .ok (.aload_n 0, 1) := by decide +kernel
theorem dX8_haggle_125 : decode cX8_haggle 125 = .ok (.getfield 10, 3) := by decide +kernel
theorem dX8_haggle_128 : decode cX8_haggle 128 = .ok (.iload_n 2, 1) := by decide +kernel
theorem dX8_haggle_129 : decode cX8_haggle 129 = .ok (.iload_n 3, 1) := by decide +kernel
theorem dX8_haggle_130 : decode cX8_haggle 130 = .ok (.invokevirtual 170, 3) := by decide +kernel
theorem dX8_haggle_133 : decode cX8_haggle 133 = .ok (.istore 6, 2) := by decide +kernel
theorem dX8_haggle_135 : decode cX8_haggle 135 = .ok (.iload 4, 2) := by decide +kernel
theorem dX8_haggle_137 : decode cX8_haggle 137 = .ok (.iload 6, 2) := by decide +kernel
theorem dX8_haggle_139 : decode cX8_haggle 139 = .ok (.if_icmp .ge 28, 3) := by decide +kernel
theorem dX8_haggle_142 : decode cX8_haggle 142 = .ok (.aload_n 0, 1) := by decide +kernel
theorem dX8_haggle_143 : decode cX8_haggle 143 = .ok (.getfield 10, 3) := by decide +kernel
theorem dX8_haggle_146 : decode cX8_haggle 146 = .ok (.iload_n 1, 1) := by decide +kernel
theorem dX8_haggle_147 : decode cX8_haggle 147 = .ok (.iload_n 2, 1) := by decide +kernel
theorem dX8_haggle_148 : decode cX8_haggle 148 = .ok (.iconst 2, 1) := by decide +kernel
theorem dX8_haggle_149 : decode cX8_haggle 149 = .ok (.iload 4, 2) := by decide +kernel
theorem dX8_haggle_151 : decode cX8_haggle 151 = .ok (.imul, 1) := by decide +kernel
theorem dX8_haggle_152 : decode cX8_haggle 152 = .ok (.iload 6, 2) := by decide +kernel
theorem dX8_haggle_154 : decode cX8_haggle 154 = .ok (.if_icmp .lt 7, 3) := by decide +kernel
theorem dX8_haggle_157 : decode cX8_haggle 157 = .ok (.iconst 1, 1) := by decide +kernel
theorem dX8_haggle_158 : decode cX8_haggle 158 = .ok (.goto 4, 3) := by decide +kernel
theorem dX8_haggle_161 : decode cX8_haggle 161 = .ok (.iconst 0, 1) := by decide +kernel
theorem dX8_haggle_162 : decode cX8_haggle 162 = .ok (.invokevirtual 174, 3) := by decide +kernel
theorem dX8_haggle_165 : decode cX8_haggle 165 = .ok (.iconst 0, 1) := by decide +kernel
theorem dX8_haggle_166 : decode cX8_haggle 166 = .ok (.ireturn, 1) := by decide +kernel
theorem dX8_haggle_167 : decode cX8_haggle 167 = .ok (.iload 4, 2) := by decide +kernel
theorem dX8_haggle_169 : decode cX8_haggle 169 = .ok (.iload 6, 2) := by decide +kernel
theorem dX8_haggle_171 : decode cX8_haggle 171 = .ok (.iadd, 1) := by decide +kernel
theorem dX8_haggle_172 : decode cX8_haggle 172 = .ok (.iconst 2, 1) := by decide +kernel
theorem dX8_haggle_173 : decode cX8_haggle 173 = .ok (.idiv, 1) := by decide +kernel
theorem dX8_haggle_174 : decode cX8_haggle 174 = .ok (.istore 7, 2) := by decide +kernel
theorem dX8_haggle_176 : decode cX8_haggle 176 = .ok (.aload_n 0, 1) := by decide +kernel
theorem dX8_haggle_177 : decode cX8_haggle 177 = .ok (.getfield 10, 3) := by decide +kernel
theorem dX8_haggle_180 : decode cX8_haggle 180 = .ok (.iload_n 1, 1) := by decide +kernel
theorem dX8_haggle_181 : decode cX8_haggle 181 = .ok (.iload_n 2, 1) := by decide +kernel
theorem dX8_haggle_182 : decode cX8_haggle 182 = .ok (.iload 7, 2) := by decide +kernel
theorem dX8_haggle_184 : decode cX8_haggle 184 = .ok (.invokevirtual 178, 3) := by decide +kernel
theorem dX8_haggle_187 : decode cX8_haggle 187 = .ok (.aload_n 0, 1) := by decide +kernel
theorem dX8_haggle_188 : decode cX8_haggle 188 = .ok (.getfield 10, 3) := by decide +kernel
theorem dX8_haggle_191 : decode cX8_haggle 191 = .ok (.iload_n 1, 1) := by decide +kernel
theorem dX8_haggle_192 : decode cX8_haggle 192 = .ok (.iload_n 2, 1) := by decide +kernel
theorem dX8_haggle_193 : decode cX8_haggle 193 = .ok (.iload_n 3, 1) := by decide +kernel
theorem dX8_haggle_194 : decode cX8_haggle 194 = .ok (.iload 5, 2) := by decide +kernel
theorem dX8_haggle_196 : decode cX8_haggle 196 = .ok (.iload 7, 2) := by decide +kernel
theorem dX8_haggle_198 : decode cX8_haggle 198 = .ok (.invokevirtual 182, 3) := by decide +kernel
theorem dX8_haggle_201 : decode cX8_haggle 201 = .ok (.iload 7, 2) := by decide +kernel
theorem dX8_haggle_203 : decode cX8_haggle 203 = .ok (.ireturn, 1) := by decide +kernel
theorem dX8_house_0 : decode cX8_house 0 = .ok (.aload_n 0, 1) := by decide +kernel
theorem dX8_house_1 : decode cX8_house 1 = .ok (.getfield 10, 3) := by decide +kernel
theorem dX8_house_4 : decode cX8_house 4 = .ok (.iload_n 1, 1) := by decide +kernel
theorem dX8_house_5 : decode cX8_house 5 = .ok (.invokevirtual 102, 3) := by decide +kernel
theorem dX8_house_8 : decode cX8_house 8 = .ok (.ifCond .ne 5, 3) := by decide +kernel
theorem dX8_house_11 : decode cX8_house 11 = .ok (.iconst (-1), 1) := by decide +kernel
theorem dX8_house_12 : decode cX8_house 12 = .ok (.ireturn, 1) := by decide +kernel
theorem dX8_house_13 : decode cX8_house 13 = .ok (.iload_n 2, 1) := by decide +kernel
theorem dX8_house_14 : decode cX8_house 14 = .ok (.ifCond .ne 14, 3) := by decide +kernel
theorem dX8_house_17 : decode cX8_house 17 = .ok (.aload_n 0, 1) := by decide +kernel
theorem dX8_house_18 : decode cX8_house 18 = .ok (.getfield 10, 3) := by decide +kernel
theorem dX8_house_21 : decode cX8_house 21 = .ok (.iload_n 1, 1) := by decide +kernel
theorem dX8_house_22 : decode cX8_house 22 = .ok (.invokevirtual 199, 3) := by decide +kernel
theorem dX8_house_25 : decode cX8_house 25 = .ok (.goto 16, 3) := by decide +kernel
theorem dX8_house_28 : decode cX8_house 28 = .ok (.aload_n 0, 1) := by decide +kernel
theorem dX8_house_29 : decode cX8_house 29 = .ok (.getfield 10, 3) := by decide +kernel
theorem dX8_house_32 : decode cX8_house 32 = .ok (.getfield 158, 3) := by decide +kernel
theorem dX8_house_35 : decode cX8_house 35 = .ok (.iload_n 1, 1) := by decide +kernel
theorem dX8_house_36 : decode cX8_house 36 = .ok (.aaload, 1) := by decide +kernel
theorem dX8_house_37 : decode cX8_house 37 = .ok (.iload_n 2, 1) := by decide +kernel
theorem dX8_house_38 : decode cX8_house 38 = .ok (.invokevirtual 202, 3) := by decide +kernel
theorem dX8_house_41 : decode cX8_house 41 = .ok (.ireturn, 1) := by decide +kernel
theorem dX8_washer_0 : decode cX8_washer 0 = .ok (.aload_n 0, 1) := by decide +kernel
theorem dX8_washer_1 : decode cX8_washer 1 = .ok (.getfield 10, 3) := by decide +kernel
theorem dX8_washer_4 : decode cX8_washer 4 = .ok (.iload_n 1, 1) := by decide +kernel
theorem dX8_washer_5 : decode cX8_washer 5 = .ok (.invokevirtual 102, 3) := by decide +kernel
theorem dX8_washer_8 : decode cX8_washer 8 = .ok (.ifCond .eq 18, 3) := by decide +kernel
theorem dX8_washer_11 : decode cX8_washer 11 = .ok (.aload_n 0, 1) := by decide +kernel
theorem dX8_washer_12 : decode cX8_washer 12 = .ok (.getfield 10, 3) := by decide +kernel
theorem dX8_washer_15 : decode cX8_washer 15 = .ok (.iload_n 1, 1) := by decide +kernel
theorem dX8_washer_16 : decode cX8_washer 16 = .ok (.invokevirtual 120, 3) := by decide +kernel
theorem dX8_washer_19 : decode cX8_washer 19 = .ok (.iload_n 2, 1) := by decide +kernel
theorem dX8_washer_20 : decode cX8_washer 20 = .ok (.invokevirtual 205, 3) := by decide +kernel
theorem dX8_washer_23 : decode cX8_washer 23 = .ok (.goto 4, 3) := by decide +kernel
theorem dX8_washer_26 : decode cX8_washer 26 = .ok (.iconst (-1), 1) := by decide +kernel
theorem dX8_washer_27 : decode cX8_washer 27 = .ok (.ireturn, 1) := by decide +kernel
theorem dX8_boiler_0 : decode cX8_boiler 0 = .ok (.iload_n 1, 1) := by decide +kernel
theorem dX8_boiler_1 : decode cX8_boiler 1 = .ok (.tableswitch 119 0 7 #[47, 55, 65, 75, 85, 93, 101, 109], 47) := by decide +kernel
theorem dX8_boiler_48 : decode cX8_boiler 48 = .ok (.aload_n 0, 1) := by decide +kernel
theorem dX8_boiler_49 : decode cX8_boiler 49 = .ok (.getfield 10, 3) := by decide +kernel
theorem dX8_boiler_52 : decode cX8_boiler 52 = .ok (.getfield 70, 3) := by decide +kernel
theorem dX8_boiler_55 : decode cX8_boiler 55 = .ok (.ireturn, 1) := by decide +kernel
theorem dX8_boiler_56 : decode cX8_boiler 56 = .ok (.aload_n 0, 1) := by decide +kernel
theorem dX8_boiler_57 : decode cX8_boiler 57 = .ok (.getfield 10, 3) := by decide +kernel
theorem dX8_boiler_60 : decode cX8_boiler 60 = .ok (.getfield 77, 3) := by decide +kernel
theorem dX8_boiler_63 : decode cX8_boiler 63 = .ok (.iconst 0, 1) := by decide +kernel
theorem dX8_boiler_64 : decode cX8_boiler 64 = .ok (.iaload, 1) := by decide +kernel
theorem dX8_boiler_65 : decode cX8_boiler 65 = .ok (.ireturn, 1) := by decide +kernel
theorem dX8_boiler_66 : decode cX8_boiler 66 = .ok (.aload_n 0, 1) := by decide +kernel
theorem dX8_boiler_67 : decode cX8_boiler 67 = .ok (.getfield 10, 3) := by decide +kernel
theorem dX8_boiler_70 : decode cX8_boiler 70 = .ok (.getfield 77, 3) := by decide +kernel
theorem dX8_boiler_73 : decode cX8_boiler 73 = .ok (.iconst 1, 1) := by decide +kernel
theorem dX8_boiler_74 : decode cX8_boiler 74 = .ok (.iaload, 1) := by decide +kernel
theorem dX8_boiler_75 : decode cX8_boiler 75 = .ok (.ireturn, 1) := by decide +kernel
theorem dX8_boiler_76 : decode cX8_boiler 76 = .ok (.aload_n 0, 1) := by decide +kernel
theorem dX8_boiler_77 : decode cX8_boiler 77 = .ok (.getfield 10, 3) := by decide +kernel
theorem dX8_boiler_80 : decode cX8_boiler 80 = .ok (.getfield 77, 3) := by decide +kernel
theorem dX8_boiler_83 : decode cX8_boiler 83 = .ok (.iconst 2, 1) := by decide +kernel
theorem dX8_boiler_84 : decode cX8_boiler 84 = .ok (.iaload, 1) := by decide +kernel
theorem dX8_boiler_85 : decode cX8_boiler 85 = .ok (.ireturn, 1) := by decide +kernel
theorem dX8_boiler_86 : decode cX8_boiler 86 = .ok (.aload_n 0, 1) := by decide +kernel
theorem dX8_boiler_87 : decode cX8_boiler 87 = .ok (.getfield 10, 3) := by decide +kernel
theorem dX8_boiler_90 : decode cX8_boiler 90 = .ok (.getfield 216, 3) := by decide +kernel
theorem dX8_boiler_93 : decode cX8_boiler 93 = .ok (.ireturn, 1) := by decide +kernel
theorem dX8_boiler_94 : decode cX8_boiler 94 = .ok (.aload_n 0, 1) := by decide +kernel
theorem dX8_boiler_95 : decode cX8_boiler 95 = .ok (.getfield 10, 3) := by decide +kernel
theorem dX8_boiler_98 : decode cX8_boiler 98 = .ok (.getfield 219, 3) := by decide +kernel
theorem dX8_boiler_101 : decode cX8_boiler 101 = .ok (.ireturn, 1) := by decide +kernel
theorem dX8_boiler_102 : decode cX8_boiler 102 = .ok (.aload_n 0, 1) := by decide +kernel
theorem dX8_boiler_103 : decode cX8_boiler 103 = .ok (.getfield 10, 3) := by decide +kernel
theorem dX8_boiler_106 : decode cX8_boiler 106 = .ok (.invokevirtual 222, 3) := by decide +kernel
theorem dX8_boiler_109 : decode cX8_boiler 109 = .ok (.ireturn, 1) := by decide +kernel
theorem dX8_boiler_110 : decode cX8_boiler 110 = .ok (.aload_n 0, 1) := by decide +kernel
theorem dX8_boiler_111 : decode cX8_boiler 111 = .ok (.getfield 10, 3) := by decide +kernel
theorem dX8_boiler_114 : decode cX8_boiler 114 = .ok (.getfield 77, 3) := by decide +kernel
theorem dX8_boiler_117 : decode cX8_boiler 117 = .ok (.iconst 3, 1) := by decide +kernel
theorem dX8_boiler_118 : decode cX8_boiler 118 = .ok (.iaload, 1) := by decide +kernel
theorem dX8_boiler_119 : decode cX8_boiler 119 = .ok (.ireturn, 1) := by decide +kernel
theorem dX8_boiler_120 : decode cX8_boiler 120 = .ok (.bipush (-2), 2) := by decide +kernel
theorem dX8_boiler_122 : decode cX8_boiler 122 = .ok (.ireturn, 1) := by decide +kernel
theorem dX8_heatNext_0 : decode cX8_heatNext 0 = .ok (.aload_n 0, 1) := by decide +kernel
theorem dX8_heatNext_1 : decode cX8_heatNext 1 = .ok (.getfield 10, 3) := by decide +kernel
theorem dX8_heatNext_4 : decode cX8_heatNext 4 = .ok (.iload_n 1, 1) := by decide +kernel
theorem dX8_heatNext_5 : decode cX8_heatNext 5 = .ok (.invokevirtual 102, 3) := by decide +kernel
theorem dX8_heatNext_8 : decode cX8_heatNext 8 = .ok (.ifCond .ne 5, 3) := by decide +kernel
theorem dX8_heatNext_11 : decode cX8_heatNext 11 = .ok (.iconst (-1), 1) := by decide +kernel
theorem dX8_heatNext_12 : decode cX8_heatNext 12 = .ok (.ireturn, 1) := by decide +kernel
theorem dX8_heatNext_13 : decode cX8_heatNext 13 = .ok (.aload_n 0, 1) := by decide +kernel
theorem dX8_heatNext_14 : decode cX8_heatNext 14 = .ok (.getfield 10, 3) := by decide +kernel
theorem dX8_heatNext_17 : decode cX8_heatNext 17 = .ok (.getfield 80, 3) := by decide +kernel
theorem dX8_heatNext_20 : decode cX8_heatNext 20 = .ok (.ifCond .ne 5, 3) := by decide +kernel
theorem dX8_heatNext_23 : decode cX8_heatNext 23 = .ok (.iconst 0, 1) := by decide +kernel
theorem dX8_heatNext_24 : decode cX8_heatNext 24 = .ok (.ireturn, 1) := by decide +kernel
theorem dX8_heatNext_25 : decode cX8_heatNext 25 = .ok (.aload_n 0, 1) := by decide +kernel
theorem dX8_heatNext_26 : decode cX8_heatNext 26 = .ok (.getfield 10, 3) := by decide +kernel
theorem dX8_heatNext_29 : decode cX8_heatNext 29 = .ok (.aload_n 0, 1) := by decide +kernel
theorem dX8_heatNext_30 : decode cX8_heatNext 30 = .ok (.getfield 32, 3) := by decide +kernel
theorem dX8_heatNext_33 : decode cX8_heatNext 33 = .ok (.invokevirtual 225, 3) := by decide +kernel
theorem dX8_heatNext_36 : decode cX8_heatNext 36 = .ok (.aload_n 0, 1) := by decide +kernel
theorem dX8_heatNext_37 : decode cX8_heatNext 37 = .ok (.getfield 32, 3) := by decide +kernel
theorem dX8_heatNext_40 : decode cX8_heatNext 40 = .ok (.getfield 229, 3) := by decide +kernel
theorem dX8_heatNext_43 : decode cX8_heatNext 43 = .ok (.iload_n 1, 1) := by decide +kernel
theorem dX8_heatNext_44 : decode cX8_heatNext 44 = .ok (.iaload, 1) := by decide +kernel
theorem dX8_heatNext_45 : decode cX8_heatNext 45 = .ok (.ireturn, 1) := by decide +kernel
theorem dX8_lease_0 : decode cX8_lease 0 = .ok (.iload_n 1, 1) := by decide +kernel
theorem dX8_lease_1 : decode cX8_lease 1 = .ok (.iconst 0, 1) := by decide +kernel
theorem dX8_lease_2 : decode cX8_lease 2 = .ok (.aload_n 0, 1) := by decide +kernel
theorem dX8_lease_3 : decode cX8_lease 3 = .ok (.getfield 10, 3) := by decide +kernel
theorem dX8_lease_6 : decode cX8_lease 6 = .ok (.getfield 167, 3) := by decide +kernel
theorem dX8_lease_9 : decode cX8_lease 9 = .ok (.iconst 1, 1) := by decide +kernel
theorem dX8_lease_10 : decode cX8_lease 10 = .ok (.isub, 1) := by decide +kernel
theorem dX8_lease_11 : decode cX8_lease 11 = .ok (.invokestatic 47, 3) := by decide +kernel
theorem dX8_lease_14 : decode cX8_lease 14 = .ok (.ifCond .eq 19, 3) := by decide +kernel
theorem dX8_lease_17 : decode cX8_lease 17 = .ok (.aload_n 0, 1) := by decide +kernel
theorem dX8_lease_18 : decode cX8_lease 18 = .ok (.getfield 10, 3) := by decide +kernel
theorem dX8_lease_21 : decode cX8_lease 21 = .ok (.getfield 232, 3) := by decide +kernel
theorem dX8_lease_24 : decode cX8_lease 24 = .ok (.iload_n 1, 1) := by decide +kernel
theorem dX8_lease_25 : decode cX8_lease 25 = .ok (.aaload, 1) := by decide +kernel
theorem dX8_lease_26 : decode cX8_lease 26 = .ok (.iload_n 2, 1) := by decide +kernel
theorem dX8_lease_27 : decode cX8_lease 27 = .ok (.invokevirtual 236, 3) := by decide +kernel
theorem dX8_lease_30 : decode cX8_lease 30 = .ok (.goto 4, 3) := by decide +kernel
theorem dX8_lease_33 : decode cX8_lease 33 = .ok (.iconst (-1), 1) := by decide +kernel
theorem dX8_lease_34 : decode cX8_lease 34 = .ok (.ireturn, 1) := by decide +kernel
theorem dX8_count_0 : decode cX8_count 0 = .ok (.iload_n 1, 1) := by decide +kernel
theorem dX8_count_1 : decode cX8_count 1 = .ok (.lookupswitch 43 #[(13, 27), (14, 35)], 27) := by decide +kernel
theorem dX8_count_28 : decode cX8_count 28 = .ok (.aload_n 0, 1) := by decide +kernel
theorem dX8_count_29 : decode cX8_count 29 = .ok (.getfield 25, 3) := by decide +kernel
theorem dX8_count_32 : decode cX8_count 32 = .ok (.getfield 190, 3) := by decide +kernel
theorem dX8_count_35 : decode cX8_count 35 = .ok (.ireturn, 1) := by decide +kernel
theorem dX8_count_36 : decode cX8_count 36 = .ok (.aload_n 0, 1) := by decide +kernel
theorem dX8_count_37 : decode cX8_count 37 = .ok (.getfield 39, 3) := by decide +kernel
theorem dX8_count_40 : decode cX8_count 40 = .ok (.getfield 99, 3) := by decide +kernel
theorem dX8_count_43 : decode cX8_count 43 = .ok (.ireturn, 1) := by decide +kernel
theorem dX8_count_44 : decode cX8_count 44 = .ok (.aload_n 0, 1) := by decide +kernel
theorem dX8_count_45 : decode cX8_count 45 = .ok (.getfield 10, 3) := by decide +kernel
theorem dX8_count_48 : decode cX8_count 48 = .ok (.iload_n 1, 1) := by decide +kernel
theorem dX8_count_49 : decode cX8_count 49 = .ok (.invokevirtual 239, 3) := by decide +kernel
theorem dX8_count_52 : decode cX8_count 52 = .ok (.ireturn, 1) := by decide +kernel
theorem dX8_isWithin_0 : decode cX8_isWithin 0 = .ok (.iload_n 1, 1) := by decide +kernel
theorem dX8_isWithin_1 : decode cX8_isWithin 1 = .ok (.iload_n 0, 1) := by decide +kernel
theorem dX8_isWithin_2 : decode cX8_isWithin 2 = .ok (.if_icmp .gt 12, 3) := by decide +kernel
theorem dX8_isWithin_5 : decode cX8_isWithin 5 = .ok (.iload_n 0, 1) := by decide +kernel
theorem dX8_isWithin_6 : decode cX8_isWithin 6 = .ok (.iload_n 2, 1) := by decide +kernel
theorem dX8_isWithin_7 : decode cX8_isWithin 7 = .ok (.if_icmp .gt 7, 3) := by decide +kernel
theorem dX8_isWithin_10 : decode cX8_isWithin 10 = .ok (.iconst 1, 1) := by decide +kernel
theorem dX8_isWithin_11 : decode cX8_isWithin 11 = .ok (.goto 4, 3) := by decide +kernel
theorem dX8_isWithin_14 : decode cX8_isWithin 14 = .ok (.iconst 0, 1) := by decide +kernel
theorem dX8_isWithin_15 : decode cX8_isWithin 15 = .ok (.ireturn, 1) := by decide +kernel
theorem dX10_cell_0 : decode cX10_cell 0 = .ok (.iload_n 1, 1) := by decide +kernel
theorem dX10_cell_1 : decode cX10_cell 1 = .ok (.aload_n 0, 1) := by decide +kernel
theorem dX10_cell_2 : decode cX10_cell 2 = .ok (.arraylength, 1) := by decide +kernel
theorem dX10_cell_3 : decode cX10_cell 3 = .ok (.if_icmp .ge 9, 3) := by decide +kernel
theorem dX10_cell_6 : decode cX10_cell 6 = .ok (.aload_n 0, 1) := by decide +kernel
theorem dX10_cell_7 : decode cX10_cell 7 = .ok (.iload_n 1, 1) := by decide +kernel
theorem dX10_cell_8 : decode cX10_cell 8 = .ok (.iaload, 1) := by decide +kernel
theorem dX10_cell_9 : decode cX10_cell 9 = .ok (.goto 12, 3) := by decide +kernel
theorem dX10_cell_12 : decode cX10_cell 12 = .ok (.ldc 7, 2) := by decide +kernel
theorem dX10_cell_14 : decode cX10_cell 14 = .ok (.iload_n 1, 1) := by decide +kernel
theorem dX10_cell_15 : decode cX10_cell 15 = .ok (.iconst 1, 1) := by decide +kernel
theorem dX10_cell_16 : decode cX10_cell 16 = .ok (.iadd, 1) := by decide +kernel
theorem dX10_cell_17 : decode cX10_cell 17 = .ok (.imul, 1) := by decide +kernel
theorem dX10_cell_18 : decode cX10_cell 18 = .ok (.ldc 8, 2) := by decide +kernel
theorem dX10_cell_20 : decode cX10_cell 20 = .ok (.iadd, 1) := by decide +kernel
theorem dX10_cell_21 : decode cX10_cell 21 = .ok (.ireturn, 1) := by decide +kernel
theorem dX10_low_0 : decode cX10_low 0 = .ok (.iload_n 0, 1) := by decide +kernel
theorem dX10_low_1 : decode cX10_low 1 = .ok (.ldc 9, 2) := by decide +kernel
theorem dX10_low_3 : decode cX10_low 3 = .ok (.iand, 1) := by decide +kernel
theorem dX10_low_4 : decode cX10_low 4 = .ok (.iload_n 1, 1) := by decide +kernel
theorem dX10_low_5 : decode cX10_low 5 = .ok (.irem, 1) := by decide +kernel
theorem dX10_low_6 : decode cX10_low 6 = .ok (.ireturn, 1) := by decide +kernel
theorem dX10_shares_0 : decode cX10_shares 0 = .ok (.aload_n 2, 1) := by decide +kernel
theorem dX10_shares_1 : decode cX10_shares 1 = .ok (.bipush 16, 2) := by decide +kernel
theorem dX10_shares_3 : decode cX10_shares 3 = .ok (.iload_n 0, 1) := by decide +kernel
theorem dX10_shares_4 : decode cX10_shares 4 = .ok (.imul, 1) := by decide +kernel
theorem dX10_shares_5 : decode cX10_shares 5 = .ok (.iaload, 1) := by decide +kernel
theorem dX10_shares_6 : decode cX10_shares 6 = .ok (.istore 4, 2) := by decide +kernel
theorem dX10_shares_8 : decode cX10_shares 8 = .ok (.iconst 0, 1) := by decide +kernel
theorem dX10_shares_9 : decode cX10_shares 9 = .ok (.istore 5, 2) := by decide +kernel
theorem dX10_shares_11 : decode cX10_shares 11 = .ok (.iload 5, 2) := by decide +kernel
theorem dX10_shares_13 : decode cX10_shares 13 = .ok (.aload_n 1, 1) := by decide +kernel
theorem dX10_shares_14 : decode cX10_shares 14 = .ok (.bipush 7, 2) := by decide +kernel
theorem dX10_shares_16 : decode cX10_shares 16 = .ok (.iaload, 1) := by decide +kernel
theorem dX10_shares_17 : decode cX10_shares 17 = .ok (.if_icmp .ge 61, 3) := by decide +kernel
theorem dX10_shares_20 : decode cX10_shares 20 = .ok (.iload 4, 2) := by decide +kernel
theorem dX10_shares_22 : decode cX10_shares 22 = .ok (.aload_n 3, 1) := by decide +kernel
theorem dX10_shares_23 : decode cX10_shares 23 = .ok (.iconst 5, 1) := by decide +kernel
theorem dX10_shares_24 : decode cX10_shares 24 = .ok (.iload 5, 2) := by decide +kernel
theorem dX10_shares_26 : decode cX10_shares 26 = .ok (.imul, 1) := by decide +kernel
theorem dX10_shares_27 : decode cX10_shares 27 = .ok (.iconst 1, 1) := by decide +kernel
theorem dX10_shares_28 : decode cX10_shares 28 = .ok (.iadd, 1) := by decide +kernel
theorem dX10_shares_29 : decode cX10_shares 29 = .ok (.iaload, 1) := by decide +kernel
theorem dX10_shares_30 : decode cX10_shares 30 = .ok (.iload_n 0, 1) := by decide +kernel
theorem dX10_shares_31 : decode cX10_shares 31 = .ok (.if_icmp .ne 14, 3) := by decide +kernel
theorem dX10_shares_34 : decode cX10_shares 34 = .ok (.aload_n 3, 1) := by decide +kernel
theorem dX10_shares_35 : decode cX10_shares 35 = .ok (.iconst 5, 1) := by decide +kernel
theorem dX10_shares_36 : decode cX10_shares 36 = .ok (.iload 5, 2) := by decide +kernel
theorem dX10_shares_38 : decode cX10_shares 38 = .ok (.imul, 1) := by decide +kernel
theorem dX10_shares_39 : decode cX10_shares 39 = .ok (.iconst 2, 1) := by decide +kernel
theorem dX10_shares_40 : decode cX10_shares 40 = .ok (.iadd, 1) := by decide +kernel
theorem dX10_shares_41 : decode cX10_shares 41 = .ok (.iaload, 1) := by decide +kernel
theorem dX10_shares_42 : decode cX10_shares 42 = .ok (.goto 4, 3) := by decide +kernel
theorem dX10_shares_45 : decode cX10_shares 45 = .ok (.iconst 0, 1) := by decide +kernel
theorem dX10_shares_46 : decode cX10_shares 46 = .ok (.aload_n 3, 1) := by decide +kernel
theorem dX10_shares_47 : decode cX10_shares 47 = .ok (.iconst 5, 1) := by decide +kernel
theorem dX10_shares_48 : decode cX10_shares 48 = .ok (.iload 5, 2) := by decide +kernel
theorem dX10_shares_50 : decode cX10_shares 50 = .ok (.imul, 1) := by decide +kernel
theorem dX10_shares_51 : decode cX10_shares 51 = .ok (.iaload, 1) := by decide +kernel
theorem dX10_shares_52 : decode cX10_shares 52 = .ok (.iload_n 0, 1) := by decide +kernel
theorem dX10_shares_53 : decode cX10_shares 53 = .ok (.if_icmp .ne 14, 3) := by decide +kernel
theorem dX10_shares_56 : decode cX10_shares 56 = .ok (.aload_n 3, 1) := by decide +kernel
theorem dX10_shares_57 : decode cX10_shares 57 = .ok (.iconst 5, 1) := by decide +kernel
theorem dX10_shares_58 : decode cX10_shares 58 = .ok (.iload 5, 2) := by decide +kernel
theorem dX10_shares_60 : decode cX10_shares 60 = .ok (.imul, 1) := by decide +kernel
theorem dX10_shares_61 : decode cX10_shares 61 = .ok (.iconst 2, 1) := by decide +kernel
theorem dX10_shares_62 : decode cX10_shares 62 = .ok (.iadd, 1) := by decide +kernel
theorem dX10_shares_63 : decode cX10_shares 63 = .ok (.iaload, 1) := by decide +kernel
theorem dX10_shares_64 : decode cX10_shares 64 = .ok (.goto 4, 3) := by decide +kernel
theorem dX10_shares_67 : decode cX10_shares 67 = .ok (.iconst 0, 1) := by decide +kernel
theorem dX10_shares_68 : decode cX10_shares 68 = .ok (.isub, 1) := by decide +kernel
theorem dX10_shares_69 : decode cX10_shares 69 = .ok (.iadd, 1) := by decide +kernel
theorem dX10_shares_70 : decode cX10_shares 70 = .ok (.istore 4, 2) := by decide +kernel
theorem dX10_shares_72 : decode cX10_shares 72 = .ok (.iinc 5 1, 3) := by decide +kernel
theorem dX10_shares_75 : decode cX10_shares 75 = .ok (.goto (-64), 3) := by decide +kernel
theorem dX10_shares_78 : decode cX10_shares 78 = .ok (.iload 4, 2) := by decide +kernel
theorem dX10_shares_80 : decode cX10_shares 80 = .ok (.ireturn, 1) := by decide +kernel
theorem dX10_unlent_0 : decode cX10_unlent 0 = .ok (.aload_n 2, 1) := by decide +kernel
theorem dX10_unlent_1 : decode cX10_unlent 1 = .ok (.bipush 16, 2) := by decide +kernel
theorem dX10_unlent_3 : decode cX10_unlent 3 = .ok (.iload_n 0, 1) := by decide +kernel
theorem dX10_unlent_4 : decode cX10_unlent 4 = .ok (.imul, 1) := by decide +kernel
theorem dX10_unlent_5 : decode cX10_unlent 5 = .ok (.iaload, 1) := by decide +kernel
theorem dX10_unlent_6 : decode cX10_unlent 6 = .ok (.istore 4, 2) := by decide +kernel
theorem dX10_unlent_8 : decode cX10_unlent 8 = .ok (.iconst 0, 1) := by decide +kernel
theorem dX10_unlent_9 : decode cX10_unlent 9 = .ok (.istore 5, 2) := by decide +kernel
theorem dX10_unlent_11 : decode cX10_unlent 11 = .ok (.iload 5, 2) := by decide +kernel
theorem dX10_unlent_13 : decode cX10_unlent 13 = .ok (.aload_n 1, 1) := by decide +kernel
theorem dX10_unlent_14 : decode cX10_unlent 14 = .ok (.bipush 7, 2) := by decide +kernel
theorem dX10_unlent_16 : decode cX10_unlent 16 = .ok (.iaload, 1) := by decide +kernel
theorem dX10_unlent_17 : decode cX10_unlent 17 = .ok (.if_icmp .ge 36, 3) := by decide +kernel
theorem dX10_unlent_20 : decode cX10_unlent 20 = .ok (.iload 4, 2) := by decide +kernel
theorem dX10_unlent_22 : decode cX10_unlent 22 = .ok (.aload_n 3, 1) := by decide +kernel
theorem dX10_unlent_23 : decode cX10_unlent 23 = .ok (.iconst 5, 1) := by decide +kernel
theorem dX10_unlent_24 : decode cX10_unlent 24 = .ok (.iload 5, 2) := by decide +kernel
theorem dX10_unlent_26 : decode cX10_unlent 26 = .ok (.imul, 1) := by decide +kernel
theorem dX10_unlent_27 : decode cX10_unlent 27 = .ok (.iaload, 1) := by decide +kernel
theorem dX10_unlent_28 : decode cX10_unlent 28 = .ok (.iload_n 0, 1) := by decide +kernel
theorem dX10_unlent_29 : decode cX10_unlent 29 = .ok (.if_icmp .ne 14, 3) := by decide +kernel
theorem dX10_unlent_32 : decode cX10_unlent 32 = .ok (.aload_n 3, 1) := by decide +kernel
theorem dX10_unlent_33 : decode cX10_unlent 33 = .ok (.iconst 5, 1) := by decide +kernel
theorem dX10_unlent_34 : decode cX10_unlent 34 = .ok (.iload 5, 2) := by decide +kernel
theorem dX10_unlent_36 : decode cX10_unlent 36 = .ok (.imul, 1) := by decide +kernel
theorem dX10_unlent_37 : decode cX10_unlent 37 = .ok (.iconst 2, 1) := by decide +kernel
theorem dX10_unlent_38 : decode cX10_unlent 38 = .ok (.iadd, 1) := by decide +kernel
theorem dX10_unlent_39 : decode cX10_unlent 39 = .ok (.iaload, 1) := by decide +kernel
theorem dX10_unlent_40 : decode cX10_unlent 40 = .ok (.goto 4, 3) := by decide +kernel
theorem dX10_unlent_43 : decode cX10_unlent 43 = .ok (.iconst 0, 1) := by decide +kernel
theorem dX10_unlent_44 : decode cX10_unlent 44 = .ok (.isub, 1) := by decide +kernel
theorem dX10_unlent_45 : decode cX10_unlent 45 = .ok (.istore 4, 2) := by decide +kernel
theorem dX10_unlent_47 : decode cX10_unlent 47 = .ok (.iinc 5 1, 3) := by decide +kernel
theorem dX10_unlent_50 : decode cX10_unlent 50 = .ok (.goto (-39), 3) := by decide +kernel
theorem dX10_unlent_53 : decode cX10_unlent 53 = .ok (.iload 4, 2) := by decide +kernel
theorem dX10_unlent_55 : decode cX10_unlent 55 = .ok (.ireturn, 1) := by decide +kernel
theorem dX10_temperature_0 : decode cX10_temperature 0 = .ok (.aload_n 1, 1) := by decide +kernel
theorem dX10_temperature_1 : decode cX10_temperature 1 = .ok (.bipush 16, 2) := by decide +kernel
theorem dX10_temperature_3 : decode cX10_temperature 3 = .ok (.iload_n 0, 1) := by decide +kernel
theorem dX10_temperature_4 : decode cX10_temperature 4 = .ok (.imul, 1) := by decide +kernel
theorem dX10_temperature_5 : decode cX10_temperature 5 = .ok (.bipush 7, 2) := by decide +kernel
theorem dX10_temperature_7 : decode cX10_temperature 7 = .ok (.iadd, 1) := by decide +kernel
theorem dX10_temperature_8 : decode cX10_temperature 8 = .ok (.iaload, 1) := by decide +kernel
theorem dX10_temperature_9 : decode cX10_temperature 9 = .ok (.ifCond .ne 8, 3) := by decide +kernel
theorem dX10_temperature_12 : decode cX10_temperature 12 = .ok (.bipush 15, 2) := by decide +kernel
theorem dX10_temperature_14 : decode cX10_temperature 14 = .ok (.goto 24, 3) := by decide +kernel
theorem dX10_temperature_17 : decode cX10_temperature 17 = .ok (.aload_n 1, 1) := by decide +kernel
theorem dX10_temperature_18 : decode cX10_temperature 18 = .ok (.bipush 16, 2) := by decide +kernel
theorem dX10_temperature_20 : decode cX10_temperature 20 = .ok (.iload_n 0, 1) := by decide +kernel
theorem dX10_temperature_21 : decode cX10_temperature 21 = .ok (.imul, 1) := by decide +kernel
theorem dX10_temperature_22 : decode cX10_temperature 22 = .ok (.bipush 8, 2) := by decide +kernel
theorem dX10_temperature_24 : decode cX10_temperature 24 = .ok (.iadd, 1) := by decide +kernel
theorem dX10_temperature_25 : decode cX10_temperature 25 = .ok (.iaload, 1) := by decide +kernel
theorem dX10_temperature_26 : decode cX10_temperature 26 = .ok (.iconst 4, 1) := by decide +kernel
theorem dX10_temperature_27 : decode cX10_temperature 27 = .ok (.aload_n 1, 1) := by decide +kernel
theorem dX10_temperature_28 : decode cX10_temperature 28 = .ok (.bipush 16, 2) := by decide +kernel
theorem dX10_temperature_30 : decode cX10_temperature 30 = .ok (.iload_n 0, 1) := by decide +kernel
theorem dX10_temperature_31 : decode cX10_temperature 31 = .ok (.imul, 1) := by decide +kernel
theorem dX10_temperature_32 : decode cX10_temperature 32 = .ok (.bipush 7, 2) := by decide +kernel
theorem dX10_temperature_34 : decode cX10_temperature 34 = .ok (.iadd, 1) := by decide +kernel
theorem dX10_temperature_35 : decode cX10_temperature 35 = .ok (.iaload, 1) := by decide +kernel
theorem dX10_temperature_36 : decode cX10_temperature 36 = .ok (.imul, 1) := by decide +kernel
theorem dX10_temperature_37 : decode cX10_temperature 37 = .ok (.idiv, 1) := by decide +kernel
theorem dX10_temperature_38 : decode cX10_temperature 38 = .ok (.ireturn, 1) := by decide +kernel
theorem dX10_letter_0 : decode cX10_letter 0 = .ok (.aload_n 2, 1) := by decide +kernel
theorem dX10_letter_1 : decode cX10_letter 1 = .ok (.bipush 8, 2) := by decide +kernel
theorem dX10_letter_3 : decode cX10_letter 3 = .ok (.iload_n 0, 1) := by decide +kernel
theorem dX10_letter_4 : decode cX10_letter 4 = .ok (.imul, 1) := by decide +kernel
theorem dX10_letter_5 : decode cX10_letter 5 = .ok (.aload_n 1, 1) := by decide +kernel
theorem dX10_letter_6 : decode cX10_letter 6 = .ok (.bipush 16, 2) := by decide +kernel
theorem dX10_letter_8 : decode cX10_letter 8 = .ok (.iload_n 0, 1) := by decide +kernel
theorem dX10_letter_9 : decode cX10_letter 9 = .ok (.imul, 1) := by decide +kernel
theorem dX10_letter_10 : decode cX10_letter 10 = .ok (.bipush 6, 2) := by decide +kernel
theorem dX10_letter_12 : decode cX10_letter 12 = .ok (.iadd, 1) := by decide +kernel
theorem dX10_letter_13 : decode cX10_letter 13 = .ok (.iaload, 1) := by decide +kernel
theorem dX10_letter_14 : decode cX10_letter 14 = .ok (.iadd, 1) := by decide +kernel
theorem dX10_letter_15 : decode cX10_letter 15 = .ok (.iaload, 1) := by decide +kernel
theorem dX10_letter_16 : decode cX10_letter 16 = .ok (.sipush 1000, 3) := by decide +kernel
theorem dX10_letter_19 : decode cX10_letter 19 = .ok (.irem, 1) := by decide +kernel
theorem dX10_letter_20 : decode cX10_letter 20 = .ok (.ireturn, 1) := by decide +kernel
theorem dX10_number_0 : decode cX10_number 0 = .ok (.aload_n 2, 1) := by decide +kernel
theorem dX10_number_1 : decode cX10_number 1 = .ok (.bipush 8, 2) := by decide +kernel
theorem dX10_number_3 : decode cX10_number 3 = .ok (.iload_n 0, 1) := by decide +kernel
theorem dX10_number_4 : decode cX10_number 4 = .ok (.imul, 1) := by decide +kernel
theorem dX10_number_5 : decode cX10_number 5 = .ok (.aload_n 1, 1) := by decide +kernel
theorem dX10_number_6 : decode cX10_number 6 = .ok (.bipush 16, 2) := by decide +kernel
theorem dX10_number_8 : decode cX10_number 8 = .ok (.iload_n 0, 1) := by decide +kernel
theorem dX10_number_9 : decode cX10_number 9 = .ok (.imul, 1) := by decide +kernel
theorem dX10_number_10 : decode cX10_number 10 = .ok (.bipush 6, 2) := by decide +kernel
theorem dX10_number_12 : decode cX10_number 12 = .ok (.iadd, 1) := by decide +kernel
theorem dX10_number_13 : decode cX10_number 13 = .ok (.iaload, 1) := by decide +kernel
theorem dX10_number_14 : decode cX10_number 14 = .ok (.iadd, 1) := by decide +kernel
theorem dX10_number_15 : decode cX10_number 15 = .ok (.iaload, 1) := by decide +kernel
theorem dX10_number_16 : decode cX10_number 16 = .ok (.sipush 1000, 3) := by decide +kernel
theorem dX10_number_19 : decode cX10_number 19 = .ok (.idiv, 1) := by decide +kernel
theorem dX10_number_20 : decode cX10_number 20 = .ok (.ireturn, 1) := by decide +kernel
theorem dX10_want_0 : decode cX10_want 0 = .ok (.aload_n 1, 1) := by decide +kernel
theorem dX10_want_1 : decode cX10_want 1 = .ok (.bipush 16, 2) := by decide +kernel
theorem dX10_want_3 : decode cX10_want 3 = .ok (.iload_n 0, 1) := by decide +kernel
theorem dX10_want_4 : decode cX10_want 4 = .ok (.imul, 1) := by decide +kernel
theorem dX10_want_5 : decode cX10_want 5 = .ok (.iconst 5, 1) := by decide +kernel
theorem dX10_want_6 : decode cX10_want 6 = .ok (.iadd, 1) := by decide +kernel
theorem dX10_want_7 : decode cX10_want 7 = .ok (.iaload, 1) := by decide +kernel
theorem dX10_want_8 : decode cX10_want 8 = .ok (.iconst 1, 1) := by decide +kernel
theorem dX10_want_9 : decode cX10_want 9 = .ok (.if_icmp .ne 14, 3) := by decide +kernel
theorem dX10_want_12 : decode cX10_want 12 = .ok (.iload_n 0, 1) := by decide +kernel
theorem dX10_want_13 : decode cX10_want 13 = .ok (.aload_n 1, 1) := by decide +kernel
theorem dX10_want_14 : decode cX10_want 14 = .ok (.aload_n 2, 1) := by decide +kernel
theorem dX10_want_15 : decode cX10_want 15 = .ok (.invokestatic 10, 3) := by decide +kernel
theorem dX10_want_18 : decode cX10_want 18 = .ok (.bipush 104, 2) := by decide +kernel
theorem dX10_want_20 : decode cX10_want 20 = .ok (.if_icmp .eq 5, 3) := by decide +kernel
theorem dX10_want_23 : decode cX10_want 23 = .ok (.iconst 0, 1) := by decide +kernel
theorem dX10_want_24 : decode cX10_want 24 = .ok (.ireturn, 1) := by decide +kernel
theorem dX10_want_25 : decode cX10_want 25 = .ok (.iconst 4, 1) := by decide +kernel
theorem dX10_want_26 : decode cX10_want 26 = .ok (.aload_n 1, 1) := by decide +kernel
theorem dX10_want_27 : decode cX10_want 27 = .ok (.bipush 16, 2) := by decide +kernel
theorem dX10_want_29 : decode cX10_want 29 = .ok (.iload_n 0, 1) := by decide +kernel
theorem dX10_want_30 : decode cX10_want 30 = .ok (.imul, 1) := by decide +kernel
theorem dX10_want_31 : decode cX10_want 31 = .ok (.bipush 7, 2) := by decide +kernel
theorem dX10_want_33 : decode cX10_want 33 = .ok (.iadd, 1) := by decide +kernel
theorem dX10_want_34 : decode cX10_want 34 = .ok (.iaload, 1) := by decide +kernel
theorem dX10_want_35 : decode cX10_want 35 = .ok (.imul, 1) := by decide +kernel
theorem dX10_want_36 : decode cX10_want 36 = .ok (.iload_n 0, 1) := by decide +kernel
theorem dX10_want_37 : decode cX10_want 37 = .ok (.aload_n 1, 1) := by decide +kernel
theorem dX10_want_38 : decode cX10_want 38 = .ok (.aload_n 2, 1) := by decide +kernel
theorem dX10_want_39 : decode cX10_want 39 = .ok (.invokestatic 16, 3) := by decide +kernel
theorem dX10_want_42 : decode cX10_want 42 = .ok (.imul, 1) := by decide +kernel
theorem dX10_want_43 : decode cX10_want 43 = .ok (.aload_n 1, 1) := by decide +kernel
theorem dX10_want_44 : decode cX10_want 44 = .ok (.bipush 16, 2) := by decide +kernel
theorem dX10_want_46 : decode cX10_want 46 = .ok (.iload_n 0, 1) := by decide +kernel
theorem dX10_want_47 : decode cX10_want 47 = .ok (.imul, 1) := by decide +kernel
theorem dX10_want_48 : decode cX10_want 48 = .ok (.bipush 8, 2) := by decide +kernel
theorem dX10_want_50 : decode cX10_want 50 = .ok (.iadd, 1) := by decide +kernel
theorem dX10_want_51 : decode cX10_want 51 = .ok (.iaload, 1) := by decide +kernel
theorem dX10_want_52 : decode cX10_want 52 = .ok (.isub, 1) := by decide +kernel
theorem dX10_want_53 : decode cX10_want 53 = .ok (.istore_n 3, 1) := by decide +kernel
theorem dX10_want_54 : decode cX10_want 54 = .ok (.aload_n 1, 1) := by decide +kernel
theorem dX10_want_55 : decode cX10_want 55 = .ok (.bipush 16, 2) := by decide +kernel
theorem dX10_want_57 : decode cX10_want 57 = .ok (.iload_n 0, 1) := by decide +kernel
theorem dX10_want_58 : decode cX10_want 58 = .ok (.imul, 1) := by decide +kernel
theorem dX10_want_59 : decode cX10_want 59 = .ok (.bipush 7, 2) := by decide +kernel
theorem dX10_want_61 : decode cX10_want 61 = .ok (.iadd, 1) := by decide +kernel
theorem dX10_want_62 : decode cX10_want 62 = .ok (.iaload, 1) := by decide +kernel
theorem dX10_want_63 : decode cX10_want 63 = .ok (.ifCond .eq 7, 3) := by decide +kernel
theorem dX10_want_66 : decode cX10_want 66 = .ok (.iload_n 3, 1) := by decide +kernel
theorem dX10_want_67 : decode cX10_want 67 = .ok (.ifCond .ge 7, 3) := by decide +kernel
theorem dX10_want_70 : decode cX10_want 70 = .ok (.iconst 0, 1) := by decide +kernel
theorem dX10_want_71 : decode cX10_want 71 = .ok (.goto 17, 3) := by decide +kernel
theorem dX10_want_74 : decode cX10_want 74 = .ok (.iload_n 3, 1) := by decide +kernel
theorem dX10_want_75 : decode cX10_want 75 = .ok (.sipush 250, 3) := by decide +kernel
theorem dX10_want_78 : decode cX10_want 78 = .ok (.if_icmp .le 9, 3) := by decide +kernel
theorem dX10_want_81 : decode cX10_want 81 = .ok (.sipush 250, 3) := by decide +kernel
theorem dX10_want_84 : decode cX10_want 84 = .ok (.goto 4, 3) := by decide +kernel
theorem dX10_want_87 : decode cX10_want 87 = .ok (.iload_n 3, 1) := by decide +kernel
theorem dX10_want_88 : decode cX10_want 88 = .ok (.ireturn, 1) := by decide +kernel
theorem dX10_split_0 : decode cX10_split 0 = .ok (.iload_n 0, 1) := by decide +kernel
theorem dX10_split_1 : decode cX10_split 1 = .ok (.istore 6, 2) := by decide +kernel
theorem dX10_split_3 : decode cX10_split 3 = .ok (.iconst 3, 1) := by decide +kernel
theorem dX10_split_4 : decode cX10_split 4 = .ok (.newarray .int, 2) := by decide +kernel
theorem dX10_split_6 : decode cX10_split 6 = .ok (.astore 7, 2) := by decide +kernel
theorem dX10_split_8 : decode cX10_split 8 = .ok (.iconst 0, 1) := by decide +kernel
theorem dX10_split_9 : decode cX10_split 9 = .ok (.istore 8, 2) := by decide +kernel
theorem dX10_split_11 : decode cX10_split 11 = .ok (.iload 8, 2) := by decide +kernel
theorem dX10_split_13 : decode cX10_split 13 = .ok (.iconst 3, 1) := by decide +kernel
theorem dX10_split_14 : decode cX10_split 14 = .ok (.if_icmp .ge 15, 3) := by decide +kernel
theorem dX10_split_17 : decode cX10_split 17 = .ok (.aload 5, 2) := by decide +kernel
theorem dX10_split_19 : decode cX10_split 19 = .ok (.iload 8, 2) := by decide +kernel
theorem dX10_split_21 : decode cX10_split 21 = .ok (.iconst 0, 1) := by decide +kernel
theorem dX10_split_22 : decode cX10_split 22 = .ok (.iastore, 1) := by decide +kernel
theorem dX10_split_23 : decode cX10_split 23 = .ok (.iinc 8 1, 3) := by decide +kernel
theorem dX10_split_26 : decode cX10_split 26 = .ok (.goto (-15), 3) := by decide +kernel
theorem dX10_split_29 : decode cX10_split 29 = .ok (.iconst 0, 1) := by decide +kernel
theorem dX10_split_30 : decode cX10_split 30 = .ok (.istore 8, 2) := by decide +kernel
theorem dX10_split_32 : decode cX10_split 32 = .ok (.iload 8, 2) := by decide +kernel
theorem dX10_split_34 : decode cX10_split 34 = .ok (.sipush 2000, 3) := by decide +kernel
theorem dX10_split_37 : decode cX10_split 37 = .ok (.if_icmp .ge 252, 3) := by decide +kernel
theorem dX10_split_40 : decode cX10_split 40 = .ok (.iload 6, 2) := by decide +kernel
theorem dX10_split_42 : decode cX10_split 42 = .ok (.ifCond .le 247, 3) := by decide +kernel
theorem dX10_split_45 : decode cX10_split 45 = .ok (.iconst 0, 1) := by decide +kernel
theorem dX10_split_46 : decode cX10_split 46 = .ok (.istore 9, 2) := by decide +kernel
theorem dX10_split_48 : decode cX10_split 48 = .ok (.iconst (-1), 1) := by decide +kernel
theorem dX10_split_49 : decode cX10_split 49 = .ok (.istore 10, 2) := by decide +kernel
theorem dX10_split_51 : decode cX10_split 51 = .ok (.iconst 2, 1) := by decide +kernel
theorem dX10_split_52 : decode cX10_split 52 = .ok (.istore 11, 2) := by decide +kernel
theorem dX10_split_54 : decode cX10_split 54 = .ok (.iload 11, 2) := by decide +kernel
theorem dX10_split_56 : decode cX10_split 56 = .ok (.ifCond .lt 45, 3) := by decide +kernel
theorem dX10_split_59 : decode cX10_split 59 = .ok (.aload 5, 2) := by decide +kernel
theorem dX10_split_61 : decode cX10_split 61 = .ok (.iload 11, 2) := by decide +kernel
theorem dX10_split_63 : decode cX10_split 63 = .ok (.iaload, 1) := by decide +kernel
theorem dX10_split_64 : decode cX10_split 64 = .ok (.iload 11, 2) := by decide +kernel
theorem dX10_split_66 : decode cX10_split 66 = .ok (.aload_n 2, 1) := by decide +kernel
theorem dX10_split_67 : decode cX10_split 67 = .ok (.aload_n 3, 1) := by decide +kernel
theorem dX10_split_68 : decode cX10_split 68 = .ok (.invokestatic 19, 3) := by decide +kernel
theorem dX10_split_71 : decode cX10_split 71 = .ok (.if_icmp .ne 6, 3) := by decide +kernel
theorem dX10_split_74 : decode cX10_split 74 = .ok (.goto 21, 3) := by decide +kernel
theorem dX10_split_77 : decode cX10_split 77 = .ok (.iload 9, 2) := by decide +kernel
theorem dX10_split_79 : decode cX10_split 79 = .ok (.iload 11, 2) := by decide +kernel
theorem dX10_split_81 : decode cX10_split 81 = .ok (.aload_n 1, 1) := by decide +kernel
theorem dX10_split_82 : decode cX10_split 82 = .ok (.aload_n 2, 1) := by decide +kernel
theorem dX10_split_83 : decode cX10_split 83 = .ok (.aload 4, 2) := by decide +kernel
theorem dX10_split_85 : decode cX10_split 85 = .ok (.invokestatic 22, 3) := by decide +kernel
theorem dX10_split_88 : decode cX10_split 88 = .ok (.iadd, 1) := by decide +kernel
theorem dX10_split_89 : decode cX10_split 89 = .ok (.istore 9, 2) := by decide +kernel
theorem dX10_split_91 : decode cX10_split 91 = .ok (.iload 11, 2) := by decide +kernel
theorem dX10_split_93 : decode cX10_split 93 = .ok (.istore 10, 2) := by decide +kernel
theorem dX10_split_95 : decode cX10_split 95 = .ok (.iinc 11 (-1), 3) := by decide +kernel
theorem dX10_split_98 : decode cX10_split 98 = .ok (.goto (-44), 3) := by decide +kernel
theorem dX10_split_101 : decode cX10_split 101 = .ok (.iload 10, 2) := by decide +kernel
theorem dX10_split_103 : decode cX10_split 103 = .ok (.ifCond .ge 4, 3) := by decide +kernel
theorem dX10_split_106 : decode cX10_split 106 = .ok (.return_, 1) := by decide +kernel
theorem dX10_split_107 : decode cX10_split 107 = .ok (.iload 6, 2) := by decide +kernel
theorem dX10_split_109 : decode cX10_split 109 = .ok (.istore 11, 2) := by decide +kernel
theorem dX10_split_111 : decode cX10_split 111 = .ok (.iconst 0, 1) := by decide +kernel
theorem dX10_split_112 : decode cX10_split 112 = .ok (.istore 12, 2) := by decide +kernel
theorem dX10_split_114 : decode cX10_split 114 = .ok (.iload 12, 2) := by decide +kernel
theorem dX10_split_116 : decode cX10_split 116 = .ok (.iconst 3, 1) := by decide +kernel
theorem dX10_split_117 : decode cX10_split 117 = .ok (.if_icmp .ge 105, 3) := by decide +kernel
theorem dX10_split_120 : decode cX10_split 120 = .ok (.aload 7, 2) := by decide +kernel
theorem dX10_split_122 : decode cX10_split 122 = .ok (.iload 12, 2) := by decide +kernel
theorem dX10_split_124 : decode cX10_split 124 = .ok (.iconst 0, 1) := by decide +kernel
theorem dX10_split_125 : decode cX10_split 125 = .ok (.iastore, 1) := by decide +kernel
theorem dX10_split_126 : decode cX10_split 126 = .ok (.aload 5, 2) := by decide +kernel
theorem dX10_split_128 : decode cX10_split 128 = .ok (.iload 12, 2) := by decide +kernel
theorem dX10_split_130 : decode cX10_split 130 = .ok (.iaload, 1) := by decide +kernel
theorem dX10_split_131 : decode cX10_split 131 = .ok (.iload 12, 2) := by decide +kernel
theorem dX10_split_133 : decode cX10_split 133 = .ok (.aload_n 2, 1) := by decide +kernel
theorem dX10_split_134 : decode cX10_split 134 = .ok (.aload_n 3, 1) := by decide +kernel
theorem dX10_split_135 : decode cX10_split 135 = .ok (.invokestatic 19, 3) := by decide +kernel
theorem dX10_split_138 : decode cX10_split 138 = .ok (.if_icmp .eq 78, 3) := by decide +kernel
theorem dX10_split_141 : decode cX10_split 141 = .ok (.iload 9, 2) := by decide +kernel
theorem dX10_split_143 : decode cX10_split 143 = .ok (.ifCond .ne 6, 3) := by decide +kernel
theorem dX10_split_146 : decode cX10_split 146 = .ok (.goto 70, 3) := by decide +kernel
theorem dX10_split_149 : decode cX10_split 149 = .ok (.aload 7, 2) := by decide +kernel
theorem dX10_split_151 : decode cX10_split 151 = .ok (.iload 12, 2) := by decide +kernel
theorem dX10_split_153 : decode cX10_split 153 = .ok (.iload 11, 2) := by decide +kernel
theorem dX10_split_155 : decode cX10_split 155 = .ok (.iload 12, 2) := by decide +kernel
theorem dX10_split_157 : decode cX10_split 157 = .ok (.aload_n 1, 1) := by decide +kernel
theorem dX10_split_158 : decode cX10_split 158 = .ok (.aload_n 2, 1) := by decide +kernel
theorem dX10_split_159 : decode cX10_split 159 = .ok (.aload 4, 2) := by decide +kernel
theorem dX10_split_161 : decode cX10_split 161 = .ok (.invokestatic 22, 3) := by decide +kernel
theorem dX10_split_164 : decode cX10_split 164 = .ok (.imul, 1) := by decide +kernel
theorem dX10_split_165 : decode cX10_split 165 = .ok (.iload 9, 2) := by decide +kernel
theorem dX10_split_167 : decode cX10_split 167 = .ok (.idiv, 1) := by decide +kernel
theorem dX10_split_168 : decode cX10_split 168 = .ok (.iastore, 1) := by decide +kernel
theorem dX10_split_169 : decode cX10_split 169 = .ok (.aload 7, 2) := by decide +kernel
theorem dX10_split_171 : decode cX10_split 171 = .ok (.iload 12, 2) := by decide +kernel
theorem dX10_split_173 : decode cX10_split 173 = .ok (.aload 7, 2) := by decide +kernel
theorem dX10_split_175 : decode cX10_split 175 = .ok (.iload 12, 2) := by decide +kernel
theorem dX10_split_177 : decode cX10_split 177 = .ok (.iaload, 1) := by decide +kernel
theorem dX10_split_178 : decode cX10_split 178 = .ok (.iload 12, 2) := by decide +kernel
theorem dX10_split_180 : decode cX10_split 180 = .ok (.aload_n 2, 1) := by decide +kernel
theorem dX10_split_181 : decode cX10_split 181 = .ok (.aload_n 3, 1) := by decide +kernel
theorem dX10_split_182 : decode cX10_split 182 = .ok (.invokestatic 19, 3) := by decide +kernel
theorem dX10_split_185 : decode cX10_split 185 = .ok (.aload 5, 2) := by decide +kernel
theorem dX10_split_187 : decode cX10_split 187 = .ok (.iload 12, 2) := by decide +kernel
theorem dX10_split_189 : decode cX10_split 189 = .ok (.iaload, 1) := by decide +kernel
theorem dX10_split_190 : decode cX10_split 190 = .ok (.isub, 1) := by decide +kernel
theorem dX10_split_191 : decode cX10_split 191 = .ok (.if_icmp .le 19, 3) := by decide +kernel
theorem dX10_split_194 : decode cX10_split 194 = .ok (.iload 12, 2) := by decide +kernel
theorem dX10_split_196 : decode cX10_split 196 = .ok (.aload_n 2, 1) := by decide +kernel
theorem dX10_split_197 : decode cX10_split 197 = .ok (.aload_n 3, 1) := by decide +kernel
theorem dX10_split_198 : decode cX10_split 198 = .ok (.invokestatic 19, 3) := by decide +kernel
theorem dX10_split_201 : decode cX10_split 201 = .ok (.aload 5, 2) := by decide +kernel
theorem dX10_split_203 : decode cX10_split 203 = .ok (.iload 12, 2) := by decide +kernel
theorem dX10_split_205 : decode cX10_split 205 = .ok (.iaload, 1) := by decide +kernel
theorem dX10_split_206 : decode cX10_split 206 = .ok (.isub, 1) := by decide +kernel
theorem dX10_split_207 : decode cX10_split 207 = .ok (.goto 8, 3) := by decide +kernel
theorem dX10_split_210 : decode cX10_split 210 = .ok (.aload 7, 2) := by decide +kernel
theorem dX10_split_212 : decode cX10_split 212 = .ok (.iload 12, 2) := by decide +kernel
theorem dX10_split_214 : decode cX10_split 214 = .ok (.iaload, 1) := by decide +kernel
theorem dX10_split_215 : decode cX10_split 215 = .ok (.iastore, 1) := by decide +kernel
theorem dX10_split_216 : decode cX10_split 216 = .ok (.iinc 12 1, 3) := by decide +kernel
theorem dX10_split_219 : decode cX10_split 219 = .ok (.goto (-105), 3) := by decide +kernel
theorem dX10_split_222 : decode cX10_split 222 = .ok (.aload 7, 2) := by decide +kernel
theorem dX10_split_224 : decode cX10_split 224 = .ok (.iconst 0, 1) := by decide +kernel
theorem dX10_split_225 : decode cX10_split 225 = .ok (.iaload, 1) := by decide +kernel
theorem dX10_split_226 : decode cX10_split 226 = .ok (.aload 7, 2) := by decide +kernel
theorem dX10_split_228 : decode cX10_split 228 = .ok (.iconst 1, 1) := by decide +kernel
theorem dX10_split_229 : decode cX10_split 229 = .ok (.iaload, 1) := by decide +kernel
theorem dX10_split_230 : decode cX10_split 230 = .ok (.iadd, 1) := by decide +kernel
theorem dX10_split_231 : decode cX10_split 231 = .ok (.aload 7, 2) := by decide +kernel
theorem dX10_split_233 : decode cX10_split 233 = .ok (.iconst 2, 1) := by decide +kernel
theorem dX10_split_234 : decode cX10_split 234 = .ok (.iaload, 1) := by decide +kernel
theorem dX10_split_235 : decode cX10_split 235 = .ok (.iadd, 1) := by decide +kernel
theorem dX10_split_236 : decode cX10_split 236 = .ok (.ifCond .ne 9, 3) := by decide +kernel
theorem dX10_split_239 : decode cX10_split 239 = .ok (.aload 7, 2) := by decide +kernel
theorem dX10_split_241 : decode cX10_split 241 = .ok (.iload 10, 2) := by decide +kernel
theorem dX10_split_243 : decode cX10_split 243 = .ok (.iconst 1, 1) := by decide +kernel
theorem dX10_split_244 : decode cX10_split 244 = .ok (.iastore, 1) := by decide +kernel
theorem dX10_split_245 : decode cX10_split 245 = .ok (.iconst 0, 1) := by decide +kernel
theorem dX10_split_246 : decode cX10_split 246 = .ok (.istore 12, 2) := by decide +kernel
theorem dX10_split_248 : decode cX10_split 248 = .ok (.iload 12, 2) := by decide +kernel
theorem dX10_split_250 : decode cX10_split 250 = .ok (.iconst 3, 1) := by decide +kernel
theorem dX10_split_251 : decode cX10_split 251 = .ok (.if_icmp .ge 32, 3) := by decide +kernel
theorem dX10_split_254 : decode cX10_split 254 = .ok (.aload 5, 2) := by decide +kernel
theorem dX10_split_256 : decode cX10_split 256 = .ok (.iload 12, 2) := by decide +kernel
theorem dX10_split_258 : decode cX10_split 258 = .ok (.dup2, 1) := by decide +kernel
theorem dX10_split_259 : decode cX10_split 259 = .ok (.iaload, 1) := by decide +kernel
theorem dX10_split_260 : decode cX10_split 260 = .ok (.aload 7, 2) := by decide +kernel
theorem dX10_split_262 : decode cX10_split 262 = .ok (.iload 12, 2) := by decide +kernel
theorem dX10_split_264 : decode cX10_split 264 = .ok (.iaload, 1) := by decide +kernel
theorem dX10_split_265 : decode cX10_split 265 = .ok (.iadd, 1) := by decide +kernel
theorem dX10_split_266 : decode cX10_split 266 = .ok (.iastore, 1) := by decide +kernel
theorem dX10_split_267 : decode cX10_split 267 = .ok (.iload 6, 2) := by decide +kernel
theorem dX10_split_269 : decode cX10_split 269 = .ok (.aload 7, 2) := by decide +kernel
theorem dX10_split_271 : decode cX10_split 271 = .ok (.iload 12, 2) := by decide +kernel
theorem dX10_split_273 : decode cX10_split 273 = .ok (.iaload, 1) := by decide +kernel
theorem dX10_split_274 : decode cX10_split 274 = .ok (.isub, 1) := by decide +kernel
theorem dX10_split_275 : decode cX10_split 275 = .ok (.istore 6, 2) := by decide +kernel
theorem dX10_split_277 : decode cX10_split 277 = .ok (.iinc 12 1, 3) := by decide +kernel
theorem dX10_split_280 : decode cX10_split 280 = .ok (.goto (-32), 3) := by decide +kernel
theorem dX10_split_283 : decode cX10_split 283 = .ok (.iinc 8 1, 3) := by decide +kernel
theorem dX10_split_286 : decode cX10_split 286 = .ok (.goto (-254), 3) := by decide +kernel
theorem dX10_split_289 : decode cX10_split 289 = .ok (.return_, 1) := by decide +kernel
theorem dX10_works_0 : decode cX10_works 0 = .ok (.bipush 16, 2) := by decide +kernel
theorem dX10_works_2 : decode cX10_works 2 = .ok (.iload_n 0, 1) := by decide +kernel
theorem dX10_works_3 : decode cX10_works 3 = .ok (.imul, 1) := by decide +kernel
theorem dX10_works_4 : decode cX10_works 4 = .ok (.istore 4, 2) := by decide +kernel
theorem dX10_works_6 : decode cX10_works 6 = .ok (.iload_n 0, 1) := by decide +kernel
theorem dX10_works_7 : decode cX10_works 7 = .ok (.aload_n 2, 1) := by decide +kernel
theorem dX10_works_8 : decode cX10_works 8 = .ok (.aload_n 3, 1) := by decide +kernel
theorem dX10_works_9 : decode cX10_works 9 = .ok (.invokestatic 10, 3) := by decide +kernel
theorem dX10_works_12 : decode cX10_works 12 = .ok (.istore 5, 2) := by decide +kernel
theorem dX10_works_14 : decode cX10_works 14 = .ok (.iload_n 0, 1) := by decide +kernel
theorem dX10_works_15 : decode cX10_works 15 = .ok (.aload_n 2, 1) := by decide +kernel
theorem dX10_works_16 : decode cX10_works 16 = .ok (.aload_n 3, 1) := by decide +kernel
theorem dX10_works_17 : decode cX10_works 17 = .ok (.invokestatic 16, 3) := by decide +kernel
theorem dX10_works_20 : decode cX10_works 20 = .ok (.istore 6, 2) := by decide +kernel
theorem dX10_works_22 : decode cX10_works 22 = .ok (.iconst 0, 1) := by decide +kernel
theorem dX10_works_23 : decode cX10_works 23 = .ok (.istore 7, 2) := by decide +kernel
theorem dX10_works_25 : decode cX10_works 25 = .ok (.iload 5, 2) := by decide +kernel
theorem dX10_works_27 : decode cX10_works 27 = .ok (.bipush 104, 2) := by decide +kernel
theorem dX10_works_29 : decode cX10_works 29 = .ok (.if_icmp .ne 13, 3) := by decide +kernel
theorem dX10_works_32 : decode cX10_works 32 = .ok (.aload_n 2, 1) := by decide +kernel
theorem dX10_works_33 : decode cX10_works 33 = .ok (.iload 4, 2) := by decide +kernel
theorem dX10_works_35 : decode cX10_works 35 = .ok (.bipush 7, 2) := by decide +kernel
theorem dX10_works_37 : decode cX10_works 37 = .ok (.iadd, 1) := by decide +kernel
theorem dX10_works_38 : decode cX10_works 38 = .ok (.iaload, 1) := by decide +kernel
theorem dX10_works_39 : decode cX10_works 39 = .ok (.ifCond .eq 20, 3) := by decide +kernel
theorem dX10_works_42 : decode cX10_works 42 = .ok (.iload 5, 2) := by decide +kernel
theorem dX10_works_44 : decode cX10_works 44 = .ok (.bipush 115, 2) := by decide +kernel
theorem dX10_works_46 : decode cX10_works 46 = .ok (.if_icmp .ne 21, 3) := by decide +kernel
theorem dX10_works_49 : decode cX10_works 49 = .ok (.aload_n 2, 1) := by decide +kernel
theorem dX10_works_50 : decode cX10_works 50 = .ok (.iload 4, 2) := by decide +kernel
theorem dX10_works_52 : decode cX10_works 52 = .ok (.bipush 7, 2) := by decide +kernel
theorem dX10_works_54 : decode cX10_works 54 = .ok (.iadd, 1) := by decide +kernel
theorem dX10_works_55 : decode cX10_works 55 = .ok (.iaload, 1) := by decide +kernel
theorem dX10_works_56 : decode cX10_works 56 = .ok (.ifCond .le 11, 3) := by decide +kernel
theorem dX10_works_59 : decode cX10_works 59 = .ok (.aload_n 2, 1) := by decide +kernel
theorem dX10_works_60 : decode cX10_works 60 = .ok (.iload 4, 2) := by decide +kernel
theorem dX10_works_62 : decode cX10_works 62 = .ok (.iconst 5, 1) := by decide +kernel
theorem dX10_works_63 : decode cX10_works 63 = .ok (.iadd, 1) := by decide +kernel
theorem dX10_works_64 : decode cX10_works 64 = .ok (.iconst 2, 1) := by decide +kernel
theorem dX10_works_65 : decode cX10_works 65 = .ok (.iastore, 1) := by decide +kernel
theorem dX10_works_66 : decode cX10_works 66 = .ok (.return_, 1) := by decide +kernel
theorem dX10_works_67 : decode cX10_works 67 = .ok (.aload_n 2, 1) := by decide +kernel
theorem dX10_works_68 : decode cX10_works 68 = .ok (.iload 4, 2) := by decide +kernel
theorem dX10_works_70 : decode cX10_works 70 = .ok (.bipush 10, 2) := by decide +kernel
theorem dX10_works_72 : decode cX10_works 72 = .ok (.iadd, 1) := by decide +kernel
theorem dX10_works_73 : decode cX10_works 73 = .ok (.dup2, 1) := by decide +kernel
theorem dX10_works_74 : decode cX10_works 74 = .ok (.iaload, 1) := by decide +kernel
theorem dX10_works_75 : decode cX10_works 75 = .ok (.iconst 1, 1) := by decide +kernel
theorem dX10_works_76 : decode cX10_works 76 = .ok (.iadd, 1) := by decide +kernel
theorem dX10_works_77 : decode cX10_works 77 = .ok (.iastore, 1) := by decide +kernel
theorem dX10_works_78 : decode cX10_works 78 = .ok (.iload 5, 2) := by decide +kernel
theorem dX10_works_80 : decode cX10_works 80 = .ok (.bipush 102, 2) := by decide +kernel
theorem dX10_works_82 : decode cX10_works 82 = .ok (.if_icmp .ne 105, 3) := by decide +kernel
theorem dX10_works_85 : decode cX10_works 85 = .ok (.iload 6, 2) := by decide +kernel
theorem dX10_works_87 : decode cX10_works 87 = .ok (.aload_n 2, 1) := by decide +kernel
theorem dX10_works_88 : decode cX10_works 88 = .ok (.iload 4, 2) := by decide +kernel
theorem dX10_works_90 : decode cX10_works 90 = .ok (.bipush 12, 2) := by decide +kernel
theorem dX10_works_92 : decode cX10_works 92 = .ok (.iadd, 1) := by decide +kernel
theorem dX10_works_93 : decode cX10_works 93 = .ok (.iaload, 1) := by decide +kernel
theorem dX10_works_94 : decode cX10_works 94 = .ok (.isub, 1) := by decide +kernel
theorem dX10_works_95 : decode cX10_works 95 = .ok (.bipush 6, 2) := by decide +kernel
theorem dX10_works_97 : decode cX10_works 97 = .ok (.if_icmp .ge 16, 3) := by decide +kernel
theorem dX10_works_100 : decode cX10_works 100 = .ok (.iload 6, 2) := by decide +kernel
theorem dX10_works_102 : decode cX10_works 102 = .ok (.aload_n 2, 1) := by decide +kernel
theorem dX10_works_103 : decode cX10_works 103 = .ok (.iload 4, 2) := by decide +kernel
theorem dX10_works_105 : decode cX10_works 105 = .ok (.bipush 12, 2) := by decide +kernel
theorem dX10_works_107 : decode cX10_works 107 = .ok (.iadd, 1) := by decide +kernel
theorem dX10_works_108 : decode cX10_works 108 = .ok (.iaload, 1) := by decide +kernel
theorem dX10_works_109 : decode cX10_works 109 = .ok (.isub, 1) := by decide +kernel
theorem dX10_works_110 : decode cX10_works 110 = .ok (.goto 5, 3) := by decide +kernel
theorem dX10_works_113 : decode cX10_works 113 = .ok (.bipush 6, 2) := by decide +kernel
theorem dX10_works_115 : decode cX10_works 115 = .ok (.istore 8, 2) := by decide +kernel
theorem dX10_works_117 : decode cX10_works 117 = .ok (.aload_n 2, 1) := by decide +kernel
theorem dX10_works_118 : decode cX10_works 118 = .ok (.iload 4, 2) := by decide +kernel
theorem dX10_works_120 : decode cX10_works 120 = .ok (.bipush 12, 2) := by decide +kernel
theorem dX10_works_122 : decode cX10_works 122 = .ok (.iadd, 1) := by decide +kernel
theorem dX10_works_123 : decode cX10_works 123 = .ok (.dup2, 1) := by decide +kernel
theorem dX10_works_124 : decode cX10_works 124 = .ok (.iaload, 1) := by decide +kernel
theorem dX10_works_125 : decode cX10_works 125 = .ok (.iload 8, 2) := by decide +kernel
theorem dX10_works_127 : decode cX10_works 127 = .ok (.iadd, 1) := by decide +kernel
theorem dX10_works_128 : decode cX10_works 128 = .ok (.iastore, 1) := by decide +kernel
theorem dX10_works_129 : decode cX10_works 129 = .ok (.aload_n 2, 1) := by decide +kernel
theorem dX10_works_130 : decode cX10_works 130 = .ok (.iload 4, 2) := by decide +kernel
theorem dX10_works_132 : decode cX10_works 132 = .ok (.bipush 13, 2) := by decide +kernel
theorem dX10_works_134 : decode cX10_works 134 = .ok (.iadd, 1) := by decide +kernel
theorem dX10_works_135 : decode cX10_works 135 = .ok (.dup2, 1) := by decide +kernel
theorem dX10_works_136 : decode cX10_works 136 = .ok (.iaload, 1) := by decide +kernel
theorem dX10_works_137 : decode cX10_works 137 = .ok (.iload 8, 2) := by decide +kernel
theorem dX10_works_139 : decode cX10_works 139 = .ok (.iadd, 1) := by decide +kernel
theorem dX10_works_140 : decode cX10_works 140 = .ok (.iastore, 1) := by decide +kernel
theorem dX10_works_141 : decode cX10_works 141 = .ok (.aload_n 2, 1) := by decide +kernel
theorem dX10_works_142 : decode cX10_works 142 = .ok (.iload 4, 2) := by decide +kernel
theorem dX10_works_144 : decode cX10_works 144 = .ok (.bipush 7, 2) := by decide +kernel
theorem dX10_works_146 : decode cX10_works 146 = .ok (.iadd, 1) := by decide +kernel
theorem dX10_works_147 : decode cX10_works 147 = .ok (.dup2, 1) := by decide +kernel
theorem dX10_works_148 : decode cX10_works 148 = .ok (.iaload, 1) := by decide +kernel
theorem dX10_works_149 : decode cX10_works 149 = .ok (.iload 8, 2) := by decide +kernel
theorem dX10_works_151 : decode cX10_works 151 = .ok (.iadd, 1) := by decide +kernel
theorem dX10_works_152 : decode cX10_works 152 = .ok (.iastore, 1) := by decide +kernel
theorem dX10_works_153 : decode cX10_works 153 = .ok (.aload_n 2, 1) := by decide +kernel
theorem dX10_works_154 : decode cX10_works 154 = .ok (.iload 4, 2) := by decide +kernel
theorem dX10_works_156 : decode cX10_works 156 = .ok (.bipush 8, 2) := by decide +kernel
theorem dX10_works_158 : decode cX10_works 158 = .ok (.iadd, 1) := by decide +kernel
theorem dX10_works_159 : decode cX10_works 159 = .ok (.dup2, 1) := by decide +kernel
theorem dX10_works_160 : decode cX10_works 160 = .ok (.iaload, 1) := by decide +kernel
theorem dX10_works_161 : decode cX10_works 161 = .ok (.bipush 60, 2) := by decide +kernel
theorem dX10_works_163 : decode cX10_works 163 = .ok (.iload 8, 2) := by decide +kernel
theorem dX10_works_165 : decode cX10_works 165 = .ok (.imul, 1) := by decide +kernel
theorem dX10_works_166 : decode cX10_works 166 = .ok (.iadd, 1) := by decide +kernel
theorem dX10_works_167 : decode cX10_works 167 = .ok (.iastore, 1) := by decide +kernel
theorem dX10_works_168 : decode cX10_works 168 = .ok (.aload_n 2, 1) := by decide +kernel
theorem dX10_works_169 : decode cX10_works 169 = .ok (.iload 4, 2) := by decide +kernel
theorem dX10_works_171 : decode cX10_works 171 = .ok (.bipush 12, 2) := by decide +kernel
theorem dX10_works_173 : decode cX10_works 173 = .ok (.iadd, 1) := by decide +kernel
theorem dX10_works_174 : decode cX10_works 174 = .ok (.iaload, 1) := by decide +kernel
theorem dX10_works_175 : decode cX10_works 175 = .ok (.iload 6, 2) := by decide +kernel
theorem dX10_works_177 : decode cX10_works 177 = .ok (.if_icmp .ne 7, 3) := by decide +kernel
theorem dX10_works_180 : decode cX10_works 180 = .ok (.iconst 1, 1) := by decide +kernel
theorem dX10_works_181 : decode cX10_works 181 = .ok (.goto 4, 3) := by decide +kernel
theorem dX10_works_184 : decode cX10_works 184 = .ok (.iconst 0, 1) := by decide +kernel
theorem dX10_works_185 : decode cX10_works 185 = .ok (.istore 7, 2) := by decide +kernel
theorem dX10_works_187 : decode cX10_works 187 = .ok (.iload 5, 2) := by decide +kernel
theorem dX10_works_189 : decode cX10_works 189 = .ok (.bipush 104, 2) := by decide +kernel
theorem dX10_works_191 : decode cX10_works 191 = .ok (.if_icmp .ne 31, 3) := by decide +kernel
theorem dX10_works_194 : decode cX10_works 194 = .ok (.aload_n 2, 1) := by decide +kernel
theorem dX10_works_195 : decode cX10_works 195 = .ok (.iload 4, 2) := by decide +kernel
theorem dX10_works_197 : decode cX10_works 197 = .ok (.bipush 8, 2) := by decide +kernel
theorem dX10_works_199 : decode cX10_works 199 = .ok (.iadd, 1) := by decide +kernel
theorem dX10_works_200 : decode cX10_works 200 = .ok (.dup2, 1) := by decide +kernel
theorem dX10_works_201 : decode cX10_works 201 = .ok (.iaload, 1) := by decide +kernel
theorem dX10_works_202 : decode cX10_works 202 = .ok (.iload_n 1, 1) := by decide +kernel
theorem dX10_works_203 : decode cX10_works 203 = .ok (.iadd, 1) := by decide +kernel
theorem dX10_works_204 : decode cX10_works 204 = .ok (.iastore, 1) := by decide +kernel
theorem dX10_works_205 : decode cX10_works 205 = .ok (.iload_n 0, 1) := by decide +kernel
theorem dX10_works_206 : decode cX10_works 206 = .ok (.aload_n 2, 1) := by decide +kernel
theorem dX10_works_207 : decode cX10_works 207 = .ok (.invokestatic 26, 3) := by decide +kernel
theorem dX10_works_210 : decode cX10_works 210 = .ok (.iload 6, 2) := by decide +kernel
theorem dX10_works_212 : decode cX10_works 212 = .ok (.if_icmp .lt 7, 3) := by decide +kernel
theorem dX10_works_215 : decode cX10_works 215 = .ok (.iconst 1, 1) := by decide +kernel
theorem dX10_works_216 : decode cX10_works 216 = .ok (.goto 4, 3) := by decide +kernel
theorem dX10_works_219 : decode cX10_works 219 = .ok (.iconst 0, 1) := by decide +kernel
theorem dX10_works_220 : decode cX10_works 220 = .ok (.istore 7, 2) := by decide +kernel
theorem dX10_works_222 : decode cX10_works 222 = .ok (.iload 5, 2) := by decide +kernel
theorem dX10_works_224 : decode cX10_works 224 = .ok (.bipush 100, 2) := by decide +kernel
theorem dX10_works_226 : decode cX10_works 226 = .ok (.if_icmp .ne 86, 3) := by decide +kernel
theorem dX10_works_229 : decode cX10_works 229 = .ok (.aload_n 2, 1) := by decide +kernel
theorem dX10_works_230 : decode cX10_works 230 = .ok (.iload 4, 2) := by decide +kernel
theorem dX10_works_232 : decode cX10_works 232 = .ok (.bipush 7, 2) := by decide +kernel
theorem dX10_works_234 : decode cX10_works 234 = .ok (.iadd, 1) := by decide +kernel
theorem dX10_works_235 : decode cX10_works 235 = .ok (.iaload, 1) := by decide +kernel
theorem dX10_works_236 : decode cX10_works 236 = .ok (.istore 8, 2) := by decide +kernel
theorem dX10_works_238 : decode cX10_works 238 = .ok (.aload_n 2, 1) := by decide +kernel
theorem dX10_works_239 : decode cX10_works 239 = .ok (.iload 4, 2) := by decide +kernel
theorem dX10_works_241 : decode cX10_works 241 = .ok (.bipush 7, 2) := by decide +kernel
theorem dX10_works_243 : decode cX10_works 243 = .ok (.iadd, 1) := by decide +kernel
theorem dX10_works_244 : decode cX10_works 244 = .ok (.iload 8, 2) := by decide +kernel
theorem dX10_works_246 : decode cX10_works 246 = .ok (.bipush 12, 2) := by decide +kernel
theorem dX10_works_248 : decode cX10_works 248 = .ok (.if_icmp .le 11, 3) := by decide +kernel
theorem dX10_works_251 : decode cX10_works 251 = .ok (.iload 8, 2) := by decide +kernel
theorem dX10_works_253 : decode cX10_works 253 = .ok (.bipush 12, 2) := by decide +kernel
theorem dX10_works_255 : decode cX10_works 255 = .ok (.isub, 1) := by decide +kernel
theorem dX10_works_256 : decode cX10_works 256 = .ok (.goto 4, 3) := by decide +kernel
theorem dX10_works_259 : decode cX10_works 259 = .ok (.iconst 0, 1) := by decide +kernel
theorem dX10_works_260 : decode cX10_works 260 = .ok (.iastore, 1) := by decide +kernel
theorem dX10_works_261 : decode cX10_works 261 = .ok (.aload_n 2, 1) := by decide +kernel
theorem dX10_works_262 : decode cX10_works 262 = .ok (.iload 4, 2) := by decide +kernel
theorem dX10_works_264 : decode cX10_works 264 = .ok (.bipush 8, 2) := by decide +kernel
theorem dX10_works_266 : decode cX10_works 266 = .ok (.iadd, 1) := by decide +kernel
theorem dX10_works_267 : decode cX10_works 267 = .ok (.iload 8, 2) := by decide +kernel
theorem dX10_works_269 : decode cX10_works 269 = .ok (.ifCond .ne 7, 3) := by decide +kernel
theorem dX10_works_272 : decode cX10_works 272 = .ok (.iconst 0, 1) := by decide +kernel
theorem dX10_works_273 : decode cX10_works 273 = .ok (.goto 21, 3) := by decide +kernel
theorem dX10_works_276 : decode cX10_works 276 = .ok (.aload_n 2, 1) := by decide +kernel
theorem dX10_works_277 : decode cX10_works 277 = .ok (.iload 4, 2) := by decide +kernel
theorem dX10_works_279 : decode cX10_works 279 = .ok (.bipush 8, 2) := by decide +kernel
theorem dX10_works_281 : decode cX10_works 281 = .ok (.iadd, 1) := by decide +kernel
theorem dX10_works_282 : decode cX10_works 282 = .ok (.iaload, 1) := by decide +kernel
theorem dX10_works_283 : decode cX10_works 283 = .ok (.aload_n 2, 1) := by decide +kernel
theorem dX10_works_284 : decode cX10_works 284 = .ok (.iload 4, 2) := by decide +kernel
theorem dX10_works_286 : decode cX10_works 286 = .ok (.bipush 7, 2) := by decide +kernel
theorem dX10_works_288 : decode cX10_works 288 = .ok (.iadd, 1) := by decide +kernel
theorem dX10_works_289 : decode cX10_works 289 = .ok (.iaload, 1) := by decide +kernel
theorem dX10_works_290 : decode cX10_works 290 = .ok (.imul, 1) := by decide +kernel
theorem dX10_works_291 : decode cX10_works 291 = .ok (.iload 8, 2) := by decide +kernel
theorem dX10_works_293 : decode cX10_works 293 = .ok (.idiv, 1) := by decide +kernel
theorem dX10_works_294 : decode cX10_works 294 = .ok (.iastore, 1) := by decide +kernel
theorem dX10_works_295 : decode cX10_works 295 = .ok (.aload_n 2, 1) := by decide +kernel
theorem dX10_works_296 : decode cX10_works 296 = .ok (.iload 4, 2) := by decide +kernel
theorem dX10_works_298 : decode cX10_works 298 = .ok (.bipush 7, 2) := by decide +kernel
theorem dX10_works_300 : decode cX10_works 300 = .ok (.iadd, 1) := by decide +kernel
theorem dX10_works_301 : decode cX10_works 301 = .ok (.iaload, 1) := by decide +kernel
theorem dX10_works_302 : decode cX10_works 302 = .ok (.ifCond .ne 7, 3) := by decide +kernel
theorem dX10_works_305 : decode cX10_works 305 = .ok (.iconst 1, 1) := by decide +kernel
theorem dX10_works_306 : decode cX10_works 306 = .ok (.goto 4, 3) := by decide +kernel
theorem dX10_works_309 : decode cX10_works 309 = .ok (.iconst 0, 1) := by decide +kernel
theorem dX10_works_310 : decode cX10_works 310 = .ok (.istore 7, 2) := by decide +kernel
theorem dX10_works_312 : decode cX10_works 312 = .ok (.iload 5, 2) := by decide +kernel
theorem dX10_works_314 : decode cX10_works 314 = .ok (.bipush 119, 2) := by decide +kernel
theorem dX10_works_316 : decode cX10_works 316 = .ok (.if_icmp .eq 10, 3) := by decide +kernel
theorem dX10_works_319 : decode cX10_works 319 = .ok (.iload 5, 2) := by decide +kernel
theorem dX10_works_321 : decode cX10_works 321 = .ok (.bipush 115, 2) := by decide +kernel
theorem dX10_works_323 : decode cX10_works 323 = .ok (.if_icmp .ne 22, 3) := by decide +kernel
theorem dX10_works_326 : decode cX10_works 326 = .ok (.aload_n 2, 1) := by decide +kernel
theorem dX10_works_327 : decode cX10_works 327 = .ok (.iload 4, 2) := by decide +kernel
theorem dX10_works_329 : decode cX10_works 329 = .ok (.bipush 10, 2) := by decide +kernel
theorem dX10_works_331 : decode cX10_works 331 = .ok (.iadd, 1) := by decide +kernel
theorem dX10_works_332 : decode cX10_works 332 = .ok (.iaload, 1) := by decide +kernel
theorem dX10_works_333 : decode cX10_works 333 = .ok (.iload 6, 2) := by decide +kernel
theorem dX10_works_335 : decode cX10_works 335 = .ok (.if_icmp .ne 7, 3) := by decide +kernel
theorem dX10_works_338 : decode cX10_works 338 = .ok (.iconst 1, 1) := by decide +kernel
theorem dX10_works_339 : decode cX10_works 339 = .ok (.goto 4, 3) := by decide +kernel
theorem dX10_works_342 : decode cX10_works 342 = .ok (.iconst 0, 1) := by decide +kernel
theorem dX10_works_343 : decode cX10_works 343 = .ok (.istore 7, 2) := by decide +kernel
theorem dX10_works_345 : decode cX10_works 345 = .ok (.iload 7, 2) := by decide +kernel
theorem dX10_works_347 : decode cX10_works 347 = .ok (.ifCond .ne 4, 3) := by decide +kernel
theorem dX10_works_350 : decode cX10_works 350 = .ok (.return_, 1) := by decide +kernel
theorem dX10_works_351 : decode cX10_works 351 = .ok (.aload_n 2, 1) := by decide +kernel
theorem dX10_works_352 : decode cX10_works 352 = .ok (.iload 4, 2) := by decide +kernel
theorem dX10_works_354 : decode cX10_works 354 = .ok (.bipush 10, 2) := by decide +kernel
theorem dX10_works_356 : decode cX10_works 356 = .ok (.iadd, 1) := by decide +kernel
theorem dX10_works_357 : decode cX10_works 357 = .ok (.iconst 0, 1) := by decide +kernel
theorem dX10_works_358 : decode cX10_works 358 = .ok (.iastore, 1) := by decide +kernel
theorem dX10_works_359 : decode cX10_works 359 = .ok (.aload_n 2, 1) := by decide +kernel
theorem dX10_works_360 : decode cX10_works 360 = .ok (.iload 4, 2) := by decide +kernel
theorem dX10_works_362 : decode cX10_works 362 = .ok (.bipush 12, 2) := by decide +kernel
theorem dX10_works_364 : decode cX10_works 364 = .ok (.iadd, 1) := by decide +kernel
theorem dX10_works_365 : decode cX10_works 365 = .ok (.iconst 0, 1) := by decide +kernel
theorem dX10_works_366 : decode cX10_works 366 = .ok (.iastore, 1) := by decide +kernel
theorem dX10_works_367 : decode cX10_works 367 = .ok (.aload_n 2, 1) := by decide +kernel
theorem dX10_works_368 : decode cX10_works 368 = .ok (.iload 4, 2) := by decide +kernel
theorem dX10_works_370 : decode cX10_works 370 = .ok (.bipush 6, 2) := by decide +kernel
theorem dX10_works_372 : decode cX10_works 372 = .ok (.iadd, 1) := by decide +kernel
theorem dX10_works_373 : decode cX10_works 373 = .ok (.dup2, 1) := by decide +kernel
