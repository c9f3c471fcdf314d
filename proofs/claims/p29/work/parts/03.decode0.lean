theorem dX0_init_0 : decode cX0_init 0 = .ok (.aload_n 0, 1) := by decide +kernel
theorem dX0_init_1 : decode cX0_init 1 = .ok (.invokespecial 3, 3) := by decide +kernel
theorem dX0_init_4 : decode cX0_init 4 = .ok (.aload_n 0, 1) := by decide +kernel
theorem dX0_init_5 : decode cX0_init 5 = .ok (.bipush 8, 2) := by decide +kernel
theorem dX0_init_7 : decode cX0_init 7 = .ok (.newarray .int, 2) := by decide +kernel
theorem dX0_init_9 : decode cX0_init 9 = .ok (.putfield 9, 3) := by decide +kernel
theorem dX0_init_12 : decode cX0_init 12 = .ok (.aload_n 0, 1) := by decide +kernel
theorem dX0_init_13 : decode cX0_init 13 = .ok (.bipush 8, 2) := by decide +kernel
theorem dX0_init_15 : decode cX0_init 15 = .ok (.newarray .int, 2) := by decide +kernel
theorem dX0_init_17 : decode cX0_init 17 = .ok (.putfield 15, 3) := by decide +kernel
theorem dX0_init_20 : decode cX0_init 20 = .ok (.aload_n 0, 1) := by decide +kernel
theorem dX0_init_21 : decode cX0_init 21 = .ok (.bipush 8, 2) := by decide +kernel
theorem dX0_init_23 : decode cX0_init 23 = .ok (.newarray .int, 2) := by decide +kernel
theorem dX0_init_25 : decode cX0_init 25 = .ok (.putfield 18, 3) := by decide +kernel
theorem dX0_init_28 : decode cX0_init 28 = .ok (.return_, 1) := by decide +kernel
theorem dX0_divide_0 : decode cX0_divide 0 = .ok (.iconst 0, 1) := by decide +kernel
theorem dX0_divide_1 : decode cX0_divide 1 = .ok (.istore_n 2, 1) := by decide +kernel
theorem dX0_divide_2 : decode cX0_divide 2 = .ok (.iload_n 2, 1) := by decide +kernel
theorem dX0_divide_3 : decode cX0_divide 3 = .ok (.bipush 8, 2) := by decide +kernel
theorem dX0_divide_5 : decode cX0_divide 5 = .ok (.if_icmp .ge 16, 3) := by decide +kernel
theorem dX0_divide_8 : decode cX0_divide 8 = .ok (.aload_n 0, 1) := by decide +kernel
theorem dX0_divide_9 : decode cX0_divide 9 = .ok (.getfield 18, 3) := by decide +kernel
theorem dX0_divide_12 : decode cX0_divide 12 = .ok (.iload_n 2, 1) := by decide +kernel
theorem dX0_divide_13 : decode cX0_divide 13 = .ok (.iconst 0, 1) := by decide +kernel
theorem dX0_divide_14 : decode cX0_divide 14 = .ok (.iastore, 1) := by decide +kernel
theorem dX0_divide_15 : decode cX0_divide 15 = .ok (.iinc 2 1, 3) := by decide +kernel
theorem dX0_divide_18 : decode cX0_divide 18 = .ok (.goto (-16), 3) := by decide +kernel
theorem dX0_divide_21 : decode cX0_divide 21 = .ok (.iload_n 1, 1) := by decide +kernel
theorem dX0_divide_22 : decode cX0_divide 22 = .ok (.istore_n 2, 1) := by decide +kernel
theorem dX0_divide_23 : decode cX0_divide 23 = .ok (.aload_n 0, 1) := by decide +kernel
theorem dX0_divide_24 : decode cX0_divide 24 = .ok (.invokevirtual 21, 3) := by decide +kernel
theorem dX0_divide_27 : decode cX0_divide 27 = .ok (.istore_n 3, 1) := by decide +kernel
theorem dX0_divide_28 : decode cX0_divide 28 = .ok (.iconst 0, 1) := by decide +kernel
theorem dX0_divide_29 : decode cX0_divide 29 = .ok (.istore 4, 2) := by decide +kernel
theorem dX0_divide_31 : decode cX0_divide 31 = .ok (.iload 4, 2) := by decide +kernel
theorem dX0_divide_33 : decode cX0_divide 33 = .ok (.sipush 2000, 3) := by decide +kernel
theorem dX0_divide_36 : decode cX0_divide 36 = .ok (.if_icmp .ge 60, 3) := by decide +kernel
theorem dX0_divide_39 : decode cX0_divide 39 = .ok (.iload_n 2, 1) := by decide +kernel
theorem dX0_divide_40 : decode cX0_divide 40 = .ok (.ifCond .le 56, 3) := by decide +kernel
theorem dX0_divide_43 : decode cX0_divide 43 = .ok (.iload_n 3, 1) := by decide +kernel
theorem dX0_divide_44 : decode cX0_divide 44 = .ok (.bipush (-5), 2) := by decide +kernel
theorem dX0_divide_46 : decode cX0_divide 46 = .ok (.if_icmp .eq 50, 3) := by decide +kernel
theorem dX0_divide_49 : decode cX0_divide 49 = .ok (.aload_n 0, 1) := by decide +kernel
theorem dX0_divide_50 : decode cX0_divide 50 = .ok (.invokevirtual 25, 3) := by decide +kernel
theorem dX0_divide_53 : decode cX0_divide 53 = .ok (.istore 5, 2) := by decide +kernel
theorem dX0_divide_55 : decode cX0_divide 55 = .ok (.aload_n 0, 1) := by decide +kernel
theorem dX0_divide_56 : decode cX0_divide 56 = .ok (.iload_n 2, 1) := by decide +kernel
theorem dX0_divide_57 : decode cX0_divide 57 = .ok (.iload 5, 2) := by decide +kernel
theorem dX0_divide_59 : decode cX0_divide 59 = .ok (.invokevirtual 28, 3) := by decide +kernel
theorem dX0_divide_62 : decode cX0_divide 62 = .ok (.istore 6, 2) := by decide +kernel
theorem dX0_divide_64 : decode cX0_divide 64 = .ok (.iload_n 2, 1) := by decide +kernel
theorem dX0_divide_65 : decode cX0_divide 65 = .ok (.iload 6, 2) := by decide +kernel
theorem dX0_divide_67 : decode cX0_divide 67 = .ok (.ifCond .le 8, 3) := by decide +kernel
theorem dX0_divide_70 : decode cX0_divide 70 = .ok (.iload 6, 2) := by decide +kernel
theorem dX0_divide_72 : decode cX0_divide 72 = .ok (.goto 11, 3) := by decide +kernel
theorem dX0_divide_75 : decode cX0_divide 75 = .ok (.aload_n 0, 1) := by decide +kernel
theorem dX0_divide_76 : decode cX0_divide 76 = .ok (.iload_n 3, 1) := by decide +kernel
theorem dX0_divide_77 : decode cX0_divide 77 = .ok (.iload_n 2, 1) := by decide +kernel
theorem dX0_divide_78 : decode cX0_divide 78 = .ok (.iload 5, 2) := by decide +kernel
theorem dX0_divide_80 : decode cX0_divide 80 = .ok (.invokevirtual 32, 3) := by decide +kernel
theorem dX0_divide_83 : decode cX0_divide 83 = .ok (.isub, 1) := by decide +kernel
theorem dX0_divide_84 : decode cX0_divide 84 = .ok (.istore_n 2, 1) := by decide +kernel
theorem dX0_divide_85 : decode cX0_divide 85 = .ok (.aload_n 0, 1) := by decide +kernel
theorem dX0_divide_86 : decode cX0_divide 86 = .ok (.invokevirtual 21, 3) := by decide +kernel
theorem dX0_divide_89 : decode cX0_divide 89 = .ok (.istore_n 3, 1) := by decide +kernel
theorem dX0_divide_90 : decode cX0_divide 90 = .ok (.iinc 4 1, 3) := by decide +kernel
theorem dX0_divide_93 : decode cX0_divide 93 = .ok (.goto (-62), 3) := by decide +kernel
theorem dX0_divide_96 : decode cX0_divide 96 = .ok (.return_, 1) := by decide +kernel
theorem dX0_isWanting_0 : decode cX0_isWanting 0 = .ok (.aload_n 0, 1) := by decide +kernel
theorem dX0_isWanting_1 : decode cX0_isWanting 1 = .ok (.getfield 18, 3) := by decide +kernel
theorem dX0_isWanting_4 : decode cX0_isWanting 4 = .ok (.iload_n 1, 1) := by decide +kernel
theorem dX0_isWanting_5 : decode cX0_isWanting 5 = .ok (.iaload, 1) := by decide +kernel
theorem dX0_isWanting_6 : decode cX0_isWanting 6 = .ok (.aload_n 0, 1) := by decide +kernel
theorem dX0_isWanting_7 : decode cX0_isWanting 7 = .ok (.getfield 9, 3) := by decide +kernel
theorem dX0_isWanting_10 : decode cX0_isWanting 10 = .ok (.iload_n 1, 1) := by decide +kernel
theorem dX0_isWanting_11 : decode cX0_isWanting 11 = .ok (.iaload, 1) := by decide +kernel
theorem dX0_isWanting_12 : decode cX0_isWanting 12 = .ok (.if_icmp .ge 7, 3) := by decide +kernel
theorem dX0_isWanting_15 : decode cX0_isWanting 15 = .ok (.iconst 1, 1) := by decide +kernel
theorem dX0_isWanting_16 : decode cX0_isWanting 16 = .ok (.goto 4, 3) := by decide +kernel
theorem dX0_isWanting_19 : decode cX0_isWanting 19 = .ok (.iconst 0, 1) := by decide +kernel
theorem dX0_isWanting_20 : decode cX0_isWanting 20 = .ok (.ireturn, 1) := by decide +kernel
theorem dX0_lowestWanting_0 : decode cX0_lowestWanting 0 = .ok (.iconst 0, 1) := by decide +kernel
theorem dX0_lowestWanting_1 : decode cX0_lowestWanting 1 = .ok (.istore_n 1, 1) := by decide +kernel
theorem dX0_lowestWanting_2 : decode cX0_lowestWanting 2 = .ok (.iload_n 1, 1) := by decide +kernel
theorem dX0_lowestWanting_3 : decode cX0_lowestWanting 3 = .ok (.bipush 8, 2) := by decide +kernel
theorem dX0_lowestWanting_5 : decode cX0_lowestWanting 5 = .ok (.if_icmp .ge 19, 3) := by decide +kernel
theorem dX0_lowestWanting_8 : decode cX0_lowestWanting 8 = .ok (.aload_n 0, 1) := by decide +kernel
theorem dX0_lowestWanting_9 : decode cX0_lowestWanting 9 = .ok (.iload_n 1, 1) := by decide +kernel
theorem dX0_lowestWanting_10 : decode cX0_lowestWanting 10 = .ok (.invokevirtual 36, 3) := by decide +kernel
theorem dX0_lowestWanting_13 : decode cX0_lowestWanting 13 = .ok (.ifCond .eq 5, 3) := by decide +kernel
theorem dX0_lowestWanting_16 : decode cX0_lowestWanting 16 = .ok (.iload_n 1, 1) := by decide +kernel
theorem dX0_lowestWanting_17 : decode cX0_lowestWanting 17 = .ok (.ireturn, 1) := by decide +kernel
theorem dX0_lowestWanting_18 : decode cX0_lowestWanting 18 = .ok (.iinc 1 1, 3) := by decide +kernel
theorem dX0_lowestWanting_21 : decode cX0_lowestWanting 21 = .ok (.goto (-19), 3) := by decide +kernel
theorem dX0_lowestWanting_24 : decode cX0_lowestWanting 24 = .ok (.bipush (-5), 2) := by decide +kernel
theorem dX0_lowestWanting_26 : decode cX0_lowestWanting 26 = .ok (.ireturn, 1) := by decide +kernel
theorem dX0_sharesOfWanting_0 : decode cX0_sharesOfWanting 0 = .ok (.iconst 0, 1) := by decide +kernel
theorem dX0_sharesOfWanting_1 : decode cX0_sharesOfWanting 1 = .ok (.istore_n 1, 1) := by decide +kernel
theorem dX0_sharesOfWanting_2 : decode cX0_sharesOfWanting 2 = .ok (.iconst 0, 1) := by decide +kernel
theorem dX0_sharesOfWanting_3 : decode cX0_sharesOfWanting 3 = .ok (.istore_n 2, 1) := by decide +kernel
theorem dX0_sharesOfWanting_4 : decode cX0_sharesOfWanting 4 = .ok (.iload_n 2, 1) := by decide +kernel
theorem dX0_sharesOfWanting_5 : decode cX0_sharesOfWanting 5 = .ok (.bipush 8, 2) := by decide +kernel
theorem dX0_sharesOfWanting_7 : decode cX0_sharesOfWanting 7 = .ok (.if_icmp .ge 30, 3) := by decide +kernel
theorem dX0_sharesOfWanting_10 : decode cX0_sharesOfWanting 10 = .ok (.iload_n 1, 1) := by decide +kernel
theorem dX0_sharesOfWanting_11 : decode cX0_sharesOfWanting 11 = .ok (.aload_n 0, 1) := by decide +kernel
theorem dX0_sharesOfWanting_12 : decode cX0_sharesOfWanting 12 = .ok (.iload_n 2, 1) := by decide +kernel
theorem dX0_sharesOfWanting_13 : decode cX0_sharesOfWanting 13 = .ok (.invokevirtual 36, 3) := by decide +kernel
theorem dX0_sharesOfWanting_16 : decode cX0_sharesOfWanting 16 = .ok (.ifCond .eq 12, 3) := by decide +kernel
theorem dX0_sharesOfWanting_19 : decode cX0_sharesOfWanting 19 = .ok (.aload_n 0, 1) := by decide +kernel
theorem dX0_sharesOfWanting_20 : decode cX0_sharesOfWanting 20 = .ok (.getfield 15, 3) := by decide +kernel
theorem dX0_sharesOfWanting_23 : decode cX0_sharesOfWanting 23 = .ok (.iload_n 2, 1) := by decide +kernel
theorem dX0_sharesOfWanting_24 : decode cX0_sharesOfWanting 24 = .ok (.iaload, 1) := by decide +kernel
theorem dX0_sharesOfWanting_25 : decode cX0_sharesOfWanting 25 = .ok (.goto 4, 3) := by decide +kernel
theorem dX0_sharesOfWanting_28 : decode cX0_sharesOfWanting 28 = .ok (.iconst 0, 1) := by decide +kernel
theorem dX0_sharesOfWanting_29 : decode cX0_sharesOfWanting 29 = .ok (.iadd, 1) := by decide +kernel
theorem dX0_sharesOfWanting_30 : decode cX0_sharesOfWanting 30 = .ok (.istore_n 1, 1) := by decide +kernel
theorem dX0_sharesOfWanting_31 : decode cX0_sharesOfWanting 31 = .ok (.iinc 2 1, 3) := by decide +kernel
theorem dX0_sharesOfWanting_34 : decode cX0_sharesOfWanting 34 = .ok (.goto (-30), 3) := by decide +kernel
theorem dX0_sharesOfWanting_37 : decode cX0_sharesOfWanting 37 = .ok (.iload_n 1, 1) := by decide +kernel
theorem dX0_sharesOfWanting_38 : decode cX0_sharesOfWanting 38 = .ok (.ireturn, 1) := by decide +kernel
theorem dX0_giveParts_0 : decode cX0_giveParts 0 = .ok (.iconst 0, 1) := by decide +kernel
theorem dX0_giveParts_1 : decode cX0_giveParts 1 = .ok (.istore_n 3, 1) := by decide +kernel
theorem dX0_giveParts_2 : decode cX0_giveParts 2 = .ok (.iconst 0, 1) := by decide +kernel
theorem dX0_giveParts_3 : decode cX0_giveParts 3 = .ok (.istore 4, 2) := by decide +kernel
theorem dX0_giveParts_5 : decode cX0_giveParts 5 = .ok (.iload_n 2, 1) := by decide +kernel
theorem dX0_giveParts_6 : decode cX0_giveParts 6 = .ok (.ifCond .le 64, 3) := by decide +kernel
theorem dX0_giveParts_9 : decode cX0_giveParts 9 = .ok (.iload 4, 2) := by decide +kernel
theorem dX0_giveParts_11 : decode cX0_giveParts 11 = .ok (.bipush 8, 2) := by decide +kernel
theorem dX0_giveParts_13 : decode cX0_giveParts 13 = .ok (.if_icmp .ge 57, 3) := by decide +kernel
theorem dX0_giveParts_16 : decode cX0_giveParts 16 = .ok (.iload_n 1, 1) := by decide +kernel
theorem dX0_giveParts_17 : decode cX0_giveParts 17 = .ok (.aload_n 0, 1) := by decide +kernel
theorem dX0_giveParts_18 : decode cX0_giveParts 18 = .ok (.getfield 15, 3) := by decide +kernel
theorem dX0_giveParts_21 : decode cX0_giveParts 21 = .ok (.iload 4, 2) := by decide +kernel
theorem dX0_giveParts_23 : decode cX0_giveParts 23 = .ok (.iaload, 1) := by decide +kernel
theorem dX0_giveParts_24 : decode cX0_giveParts 24 = .ok (.imul, 1) := by decide +kernel
theorem dX0_giveParts_25 : decode cX0_giveParts 25 = .ok (.iload_n 2, 1) := by decide +kernel
theorem dX0_giveParts_26 : decode cX0_giveParts 26 = .ok (.idiv, 1) := by decide +kernel
theorem dX0_giveParts_27 : decode cX0_giveParts 27 = .ok (.aload_n 0, 1) := by decide +kernel
theorem dX0_giveParts_28 : decode cX0_giveParts 28 = .ok (.getfield 9, 3) := by decide +kernel
theorem dX0_giveParts_31 : decode cX0_giveParts 31 = .ok (.iload 4, 2) := by decide +kernel
theorem dX0_giveParts_33 : decode cX0_giveParts 33 = .ok (.iaload, 1) := by decide +kernel
theorem dX0_giveParts_34 : decode cX0_giveParts 34 = .ok (.aload_n 0, 1) := by decide +kernel
theorem dX0_giveParts_35 : decode cX0_giveParts 35 = .ok (.getfield 18, 3) := by decide +kernel
theorem dX0_giveParts_38 : decode cX0_giveParts 38 = .ok (.iload 4, 2) := by decide +kernel
theorem dX0_giveParts_40 : decode cX0_giveParts 40 = .ok (.iaload, 1) := by decide +kernel
theorem dX0_giveParts_41 : decode cX0_giveParts 41 = .ok (.isub, 1) := by decide +kernel
theorem dX0_giveParts_42 : decode cX0_giveParts 42 = .ok (.invokestatic 40, 3) := by decide +kernel
theorem dX0_giveParts_45 : decode cX0_giveParts 45 = .ok (.istore 5, 2) := by decide +kernel
theorem dX0_giveParts_47 : decode cX0_giveParts 47 = .ok (.aload_n 0, 1) := by decide +kernel
theorem dX0_giveParts_48 : decode cX0_giveParts 48 = .ok (.getfield 18, 3) := by decide +kernel
theorem dX0_giveParts_51 : decode cX0_giveParts 51 = .ok (.iload 4, 2) := by decide +kernel
theorem dX0_giveParts_53 : decode cX0_giveParts 53 = .ok (.dup2, 1) := by decide +kernel
theorem dX0_giveParts_54 : decode cX0_giveParts 54 = .ok (.iaload, 1) := by decide +kernel
theorem dX0_giveParts_55 : decode cX0_giveParts 55 = .ok (.iload 5, 2) := by decide +kernel
theorem dX0_giveParts_57 : decode cX0_giveParts 57 = .ok (.iadd, 1) := by decide +kernel
theorem dX0_giveParts_58 : decode cX0_giveParts 58 = .ok (.iastore, 1) := by decide +kernel
theorem dX0_giveParts_59 : decode cX0_giveParts 59 = .ok (.iload_n 3, 1) := by decide +kernel
theorem dX0_giveParts_60 : decode cX0_giveParts 60 = .ok (.iload 5, 2) := by decide +kernel
theorem dX0_giveParts_62 : decode cX0_giveParts 62 = .ok (.iadd, 1) := by decide +kernel
theorem dX0_giveParts_63 : decode cX0_giveParts 63 = .ok (.istore_n 3, 1) := by decide +kernel
theorem dX0_giveParts_64 : decode cX0_giveParts 64 = .ok (.iinc 4 1, 3) := by decide +kernel
theorem dX0_giveParts_67 : decode cX0_giveParts 67 = .ok (.goto (-62), 3) := by decide +kernel
theorem dX0_giveParts_70 : decode cX0_giveParts 70 = .ok (.iload_n 3, 1) := by decide +kernel
theorem dX0_giveParts_71 : decode cX0_giveParts 71 = .ok (.ireturn, 1) := by decide +kernel
theorem dX0_giveLowest_0 : decode cX0_giveLowest 0 = .ok (.iload_n 3, 1) := by decide +kernel
theorem dX0_giveLowest_1 : decode cX0_giveLowest 1 = .ok (.ifCond .le 7, 3) := by decide +kernel
theorem dX0_giveLowest_4 : decode cX0_giveLowest 4 = .ok (.iconst 1, 1) := by decide +kernel
theorem dX0_giveLowest_5 : decode cX0_giveLowest 5 = .ok (.goto 20, 3) := by decide +kernel
theorem dX0_giveLowest_8 : decode cX0_giveLowest 8 = .ok (.iload_n 2, 1) := by decide +kernel
theorem dX0_giveLowest_9 : decode cX0_giveLowest 9 = .ok (.aload_n 0, 1) := by decide +kernel
theorem dX0_giveLowest_10 : decode cX0_giveLowest 10 = .ok (.getfield 9, 3) := by decide +kernel
theorem dX0_giveLowest_13 : decode cX0_giveLowest 13 = .ok (.iload_n 1, 1) := by decide +kernel
theorem dX0_giveLowest_14 : decode cX0_giveLowest 14 = .ok (.iaload, 1) := by decide +kernel
theorem dX0_giveLowest_15 : decode cX0_giveLowest 15 = .ok (.aload_n 0, 1) := by decide +kernel
theorem dX0_giveLowest_16 : decode cX0_giveLowest 16 = .ok (.getfield 18, 3) := by decide +kernel
theorem dX0_giveLowest_19 : decode cX0_giveLowest 19 = .ok (.iload_n 1, 1) := by decide +kernel
theorem dX0_giveLowest_20 : decode cX0_giveLowest 20 = .ok (.iaload, 1) := by decide +kernel
theorem dX0_giveLowest_21 : decode cX0_giveLowest 21 = .ok (.isub, 1) := by decide +kernel
theorem dX0_giveLowest_22 : decode cX0_giveLowest 22 = .ok (.invokestatic 40, 3) := by decide +kernel
theorem dX0_giveLowest_25 : decode cX0_giveLowest 25 = .ok (.istore 4, 2) := by decide +kernel
theorem dX0_giveLowest_27 : decode cX0_giveLowest 27 = .ok (.aload_n 0, 1) := by decide +kernel
theorem dX0_giveLowest_28 : decode cX0_giveLowest 28 = .ok (.getfield 18, 3) := by decide +kernel
theorem dX0_giveLowest_31 : decode cX0_giveLowest 31 = .ok (.iload_n 1, 1) := by decide +kernel
theorem dX0_giveLowest_32 : decode cX0_giveLowest 32 = .ok (.dup2, 1) := by decide +kernel
theorem dX0_giveLowest_33 : decode cX0_giveLowest 33 = .ok (.iaload, 1) := by decide +kernel
theorem dX0_giveLowest_34 : decode cX0_giveLowest 34 = .ok (.iload 4, 2) := by decide +kernel
theorem dX0_giveLowest_36 : decode cX0_giveLowest 36 = .ok (.iadd, 1) := by decide +kernel
theorem dX0_giveLowest_37 : decode cX0_giveLowest 37 = .ok (.iastore, 1) := by decide +kernel
theorem dX0_giveLowest_38 : decode cX0_giveLowest 38 = .ok (.iload 4, 2) := by decide +kernel
theorem dX0_giveLowest_40 : decode cX0_giveLowest 40 = .ok (.ireturn, 1) := by decide +kernel
theorem dX1_init_0 : decode cX1_init 0 = .ok (.aload_n 0, 1) := by decide +kernel
theorem dX1_init_1 : decode cX1_init 1 = .ok (.invokespecial 3, 3) := by decide +kernel
theorem dX1_init_4 : decode cX1_init 4 = .ok (.aload_n 0, 1) := by decide +kernel
theorem dX1_init_5 : decode cX1_init 5 = .ok (.iconst 4, 1) := by decide +kernel
theorem dX1_init_6 : decode cX1_init 6 = .ok (.anewarray 9, 3) := by decide +kernel
theorem dX1_init_9 : decode cX1_init 9 = .ok (.putfield 11, 3) := by decide +kernel
theorem dX1_init_12 : decode cX1_init 12 = .ok (.aload_n 0, 1) := by decide +kernel
theorem dX1_init_13 : decode cX1_init 13 = .ok (.iconst 0, 1) := by decide +kernel
theorem dX1_init_14 : decode cX1_init 14 = .ok (.putfield 17, 3) := by decide +kernel
theorem dX1_init_17 : decode cX1_init 17 = .ok (.iconst 0, 1) := by decide +kernel
theorem dX1_init_18 : decode cX1_init 18 = .ok (.istore_n 1, 1) := by decide +kernel
theorem dX1_init_19 : decode cX1_init 19 = .ok (.iload_n 1, 1) := by decide +kernel
theorem dX1_init_20 : decode cX1_init 20 = .ok (.iconst 4, 1) := by decide +kernel
theorem dX1_init_21 : decode cX1_init 21 = .ok (.if_icmp .ge 22, 3) := by decide +kernel
theorem dX1_init_24 : decode cX1_init 24 = .ok (.aload_n 0, 1) := by decide +kernel
theorem dX1_init_25 : decode cX1_init 25 = .ok (.getfield 11, 3) := by decide +kernel
theorem dX1_init_28 : decode cX1_init 28 = .ok (.iload_n 1, 1) := by decide +kernel
theorem dX1_init_29 : decode cX1_init 29 = .ok (.new 9, 3) := by decide +kernel
theorem dX1_init_32 : decode cX1_init 32 = .ok (.dup, 1) := by decide +kernel
theorem dX1_init_33 : decode cX1_init 33 = .ok (.invokespecial 21, 3) := by decide +kernel
theorem dX1_init_36 : decode cX1_init 36 = .ok (.aastore, 1) := by decide +kernel
theorem dX1_init_37 : decode cX1_init 37 = .ok (.iinc 1 1, 3) := by decide +kernel
theorem dX1_init_40 : decode cX1_init 40 = .ok (.goto (-21), 3) := by decide +kernel
theorem dX1_init_43 : decode cX1_init 43 = .ok (.return_, 1) := by decide +kernel
theorem dX1_record_0 : decode cX1_record 0 = .ok (.aload_n 0, 1) := by decide +kernel
theorem dX1_record_1 : decode cX1_record 1 = .ok (.getfield 17, 3) := by decide +kernel
theorem dX1_record_4 : decode cX1_record 4 = .ok (.iconst 4, 1) := by decide +kernel
theorem dX1_record_5 : decode cX1_record 5 = .ok (.if_icmp .ne 7, 3) := by decide +kernel
theorem dX1_record_8 : decode cX1_record 8 = .ok (.aload_n 0, 1) := by decide +kernel
theorem dX1_record_9 : decode cX1_record 9 = .ok (.invokevirtual 22, 3) := by decide +kernel
theorem dX1_record_12 : decode cX1_record 12 = .ok (.aload_n 0, 1) := by decide +kernel
theorem dX1_record_13 : decode cX1_record 13 = .ok (.getfield 11, 3) := by decide +kernel
theorem dX1_record_16 : decode cX1_record 16 = .ok (.aload_n 0, 1) := by decide +kernel
theorem dX1_record_17 : decode cX1_record 17 = .ok (.getfield 17, 3) := by decide +kernel
theorem dX1_record_20 : decode cX1_record 20 = .ok (.aaload, 1) := by decide +kernel
theorem dX1_record_21 : decode cX1_record 21 = .ok (.aload_n 1, 1) := by decide +kernel
theorem dX1_record_22 : decode cX1_record 22 = .ok (.invokevirtual 25, 3) := by decide +kernel
theorem dX1_record_25 : decode cX1_record 25 = .ok (.aload_n 0, 1) := by decide +kernel
theorem dX1_record_26 : decode cX1_record 26 = .ok (.dup, 1) := by decide +kernel
theorem dX1_record_27 : decode cX1_record 27 = .ok (.getfield 17, 3) := by decide +kernel
theorem dX1_record_30 : decode cX1_record 30 = .ok (.iconst 1, 1) := by decide +kernel
theorem dX1_record_31 : decode cX1_record 31 = .ok (.iadd, 1) := by decide +kernel
theorem dX1_record_32 : decode cX1_record 32 = .ok (.putfield 17, 3) := by decide +kernel
theorem dX1_record_35 : decode cX1_record 35 = .ok (.return_, 1) := by decide +kernel
theorem dX1_dropOldest_0 : decode cX1_dropOldest 0 = .ok (.aload_n 0, 1) := by decide +kernel
theorem dX1_dropOldest_1 : decode cX1_dropOldest 1 = .ok (.getfield 11, 3) := by decide +kernel
theorem dX1_dropOldest_4 : decode cX1_dropOldest 4 = .ok (.iconst 0, 1) := by decide +kernel
theorem dX1_dropOldest_5 : decode cX1_dropOldest 5 = .ok (.aaload, 1) := by decide +kernel
theorem dX1_dropOldest_6 : decode cX1_dropOldest 6 = .ok (.astore_n 1, 1) := by decide +kernel
theorem dX1_dropOldest_7 : decode cX1_dropOldest 7 = .ok (.iconst 1, 1) := by decide +kernel
theorem dX1_dropOldest_8 : decode cX1_dropOldest 8 = .ok (.istore_n 2, 1) := by decide +kernel
theorem dX1_dropOldest_9 : decode cX1_dropOldest 9 = .ok (.iload_n 2, 1) := by decide +kernel
theorem dX1_dropOldest_10 : decode cX1_dropOldest 10 = .ok (.iconst 4, 1) := by decide +kernel
theorem dX1_dropOldest_11 : decode cX1_dropOldest 11 = .ok (.if_icmp .ge 23, 3) := by decide +kernel
theorem dX1_dropOldest_14 : decode cX1_dropOldest 14 = .ok (.aload_n 0, 1) := by decide +kernel
theorem dX1_dropOldest_15 : decode cX1_dropOldest 15 = .ok (.getfield 11, 3) := by decide +kernel
theorem dX1_dropOldest_18 : decode cX1_dropOldest 18 = .ok (.iload_n 2, 1) := by decide +kernel
theorem dX1_dropOldest_19 : decode cX1_dropOldest 19 = .ok (.iconst 1, 1) := by decide +kernel
theorem dX1_dropOldest_20 : decode cX1_dropOldest 20 = .ok (.isub, 1) := by decide +kernel
theorem dX1_dropOldest_21 : decode cX1_dropOldest 21 = .ok (.aload_n 0, 1) := by decide +kernel
theorem dX1_dropOldest_22 : decode cX1_dropOldest 22 = .ok (.getfield 11, 3) := by decide +kernel
theorem dX1_dropOldest_25 : decode cX1_dropOldest 25 = .ok (.iload_n 2, 1) := by decide +kernel
theorem dX1_dropOldest_26 : decode cX1_dropOldest 26 = .ok (.aaload, 1) := by decide +kernel
theorem dX1_dropOldest_27 : decode cX1_dropOldest 27 = .ok (.aastore, 1) := by decide +kernel
theorem dX1_dropOldest_28 : decode cX1_dropOldest 28 = .ok (.iinc 2 1, 3) := by decide +kernel
theorem dX1_dropOldest_31 : decode cX1_dropOldest 31 = .ok (.goto (-22), 3) := by decide +kernel
theorem dX1_dropOldest_34 : decode cX1_dropOldest 34 = .ok (.aload_n 0, 1) := by decide +kernel
theorem dX1_dropOldest_35 : decode cX1_dropOldest 35 = .ok (.getfield 11, 3) := by decide +kernel
theorem dX1_dropOldest_38 : decode cX1_dropOldest 38 = .ok (.iconst 3, 1) := by decide +kernel
theorem dX1_dropOldest_39 : decode cX1_dropOldest 39 = .ok (.aload_n 1, 1) := by decide +kernel
theorem dX1_dropOldest_40 : decode cX1_dropOldest 40 = .ok (.aastore, 1) := by decide +kernel
theorem dX1_dropOldest_41 : decode cX1_dropOldest 41 = .ok (.aload_n 0, 1) := by decide +kernel
theorem dX1_dropOldest_42 : decode cX1_dropOldest 42 = .ok (.dup, 1) := by decide +kernel
theorem dX1_dropOldest_43 : decode cX1_dropOldest 43 = .ok (.getfield 17, 3) := by decide +kernel
theorem dX1_dropOldest_46 : decode cX1_dropOldest 46 = .ok (.iconst 1, 1) := by decide +kernel
theorem dX1_dropOldest_47 : decode cX1_dropOldest 47 = .ok (.isub, 1) := by decide +kernel
theorem dX1_dropOldest_48 : decode cX1_dropOldest 48 = .ok (.putfield 17, 3) := by decide +kernel
theorem dX1_dropOldest_51 : decode cX1_dropOldest 51 = .ok (.return_, 1) := by decide +kernel
theorem dX2_init_0 : decode cX2_init 0 = .ok (.aload_n 0, 1) := by decide +kernel
theorem dX2_init_1 : decode cX2_init 1 = .ok (.invokespecial 3, 3) := by decide +kernel
theorem dX2_init_4 : decode cX2_init 4 = .ok (.aload_n 0, 1) := by decide +kernel
theorem dX2_init_5 : decode cX2_init 5 = .ok (.iconst 0, 1) := by decide +kernel
theorem dX2_init_6 : decode cX2_init 6 = .ok (.putfield 9, 3) := by decide +kernel
theorem dX2_init_9 : decode cX2_init 9 = .ok (.aload_n 0, 1) := by decide +kernel
theorem dX2_init_10 : decode cX2_init 10 = .ok (.iconst 0, 1) := by decide +kernel
theorem dX2_init_11 : decode cX2_init 11 = .ok (.putfield 15, 3) := by decide +kernel
theorem dX2_init_14 : decode cX2_init 14 = .ok (.aload_n 0, 1) := by decide +kernel
theorem dX2_init_15 : decode cX2_init 15 = .ok (.iconst 0, 1) := by decide +kernel
theorem dX2_init_16 : decode cX2_init 16 = .ok (.putfield 18, 3) := by decide +kernel
theorem dX2_init_19 : decode cX2_init 19 = .ok (.aload_n 0, 1) := by decide +kernel
theorem dX2_init_20 : decode cX2_init 20 = .ok (.iconst 0, 1) := by decide +kernel
theorem dX2_init_21 : decode cX2_init 21 = .ok (.putfield 21, 3) := by decide +kernel
theorem dX2_init_24 : decode cX2_init 24 = .ok (.aload_n 0, 1) := by decide +kernel
theorem dX2_init_25 : decode cX2_init 25 = .ok (.iconst 0, 1) := by decide +kernel
theorem dX2_init_26 : decode cX2_init 26 = .ok (.putfield 24, 3) := by decide +kernel
theorem dX2_init_29 : decode cX2_init 29 = .ok (.aload_n 0, 1) := by decide +kernel
theorem dX2_init_30 : decode cX2_init 30 = .ok (.iconst 0, 1) := by decide +kernel
theorem dX2_init_31 : decode cX2_init 31 = .ok (.putfield 27, 3) := by decide +kernel
theorem dX2_init_34 : decode cX2_init 34 = .ok (.aload_n 0, 1) := by decide +kernel
theorem dX2_init_35 : decode cX2_init 35 = .ok (.iconst 0, 1) := by decide +kernel
theorem dX2_init_36 : decode cX2_init 36 = .ok (.putfield 30, 3) := by decide +kernel
theorem dX2_init_39 : decode cX2_init 39 = .ok (.aload_n 0, 1) := by decide +kernel
theorem dX2_init_40 : decode cX2_init 40 = .ok (.iconst 0, 1) := by decide +kernel
theorem dX2_init_41 : decode cX2_init 41 = .ok (.putfield 33, 3) := by decide +kernel
theorem dX2_init_44 : decode cX2_init 44 = .ok (.aload_n 0, 1) := by decide +kernel
theorem dX2_init_45 : decode cX2_init 45 = .ok (.iconst 0, 1) := by decide +kernel
theorem dX2_init_46 : decode cX2_init 46 = .ok (.putfield 36, 3) := by decide +kernel
theorem dX2_init_49 : decode cX2_init 49 = .ok (.aload_n 0, 1) := by decide +kernel
theorem dX2_init_50 : decode cX2_init 50 = .ok (.new 39, 3) := by decide +kernel
theorem dX2_init_53 : decode cX2_init 53 = .ok (.dup, 1) := by decide +kernel
theorem dX2_init_54 : decode cX2_init 54 = .ok (.aload_n 1, 1) := by decide +kernel
theorem dX2_init_55 : decode cX2_init 55 = .ok (.invokespecial 41, 3) := by decide +kernel
theorem dX2_init_58 : decode cX2_init 58 = .ok (.putfield 44, 3) := by decide +kernel
theorem dX2_init_61 : decode cX2_init 61 = .ok (.return_, 1) := by decide +kernel
theorem dX2_copyFrom_0 : decode cX2_copyFrom 0 = .ok (.aload_n 0, 1) := by decide +kernel
theorem dX2_copyFrom_1 : decode cX2_copyFrom 1 = .ok (.getfield 44, 3) := by decide +kernel
theorem dX2_copyFrom_4 : decode cX2_copyFrom 4 = .ok (.aload_n 1, 1) := by decide +kernel
theorem dX2_copyFrom_5 : decode cX2_copyFrom 5 = .ok (.getfield 44, 3) := by decide +kernel
theorem dX2_copyFrom_8 : decode cX2_copyFrom 8 = .ok (.invokevirtual 48, 3) := by decide +kernel
theorem dX2_copyFrom_11 : decode cX2_copyFrom 11 = .ok (.aload_n 0, 1) := by decide +kernel
theorem dX2_copyFrom_12 : decode cX2_copyFrom 12 = .ok (.aload_n 1, 1) := by decide +kernel
theorem dX2_copyFrom_13 : decode cX2_copyFrom 13 = .ok (.getfield 9, 3) := by decide +kernel
theorem dX2_copyFrom_16 : decode cX2_copyFrom 16 = .ok (.putfield 9, 3) := by decide +kernel
theorem dX2_copyFrom_19 : decode cX2_copyFrom 19 = .ok (.aload_n 0, 1) := by decide +kernel
theorem dX2_copyFrom_20 : decode cX2_copyFrom 20 = .ok (.aload_n 1, 1) := by decide +kernel
theorem dX2_copyFrom_21 : decode cX2_copyFrom 21 = .ok (.getfield 15, 3) := by decide +kernel
theorem dX2_copyFrom_24 : decode cX2_copyFrom 24 = .ok (.putfield 15, 3) := by decide +kernel
theorem dX2_copyFrom_27 : decode cX2_copyFrom 27 = .ok (.aload_n 0, 1) := by decide +kernel
theorem dX2_copyFrom_28 : decode cX2_copyFrom 28 = .ok (.aload_n 1, 1) := by decide +kernel
theorem dX2_copyFrom_29 : decode cX2_copyFrom 29 = .ok (.getfield 18, 3) := by decide +kernel
theorem dX2_copyFrom_32 : decode cX2_copyFrom 32 = .ok (.putfield 18, 3) := by decide +kernel
theorem dX2_copyFrom_35 : decode cX2_copyFrom 35 = .ok (.aload_n 0, 1) := by decide +kernel
theorem dX2_copyFrom_36 : decode cX2_copyFrom 36 = .ok (.aload_n 1, 1) := by decide +kernel
theorem dX2_copyFrom_37 : decode cX2_copyFrom 37 = .ok (.getfield 21, 3) := by decide +kernel
theorem dX2_copyFrom_40 : decode cX2_copyFrom 40 = .ok (.putfield 21, 3) := by decide +kernel
theorem dX2_copyFrom_43 : decode cX2_copyFrom 43 = .ok (.aload_n 0, 1) := by decide +kernel
theorem dX2_copyFrom_44 : decode cX2_copyFrom 44 = .ok (.aload_n 1, 1) := by decide +kernel
theorem dX2_copyFrom_45 : decode cX2_copyFrom 45 = .ok (.getfield 24, 3) := by decide +kernel
theorem dX2_copyFrom_48 : decode cX2_copyFrom 48 = .ok (.putfield 24, 3) := by decide +kernel
theorem dX2_copyFrom_51 : decode cX2_copyFrom 51 = .ok (.aload_n 0, 1) := by decide +kernel
theorem dX2_copyFrom_52 : decode cX2_copyFrom 52 = .ok (.aload_n 1, 1) := by decide +kernel
theorem dX2_copyFrom_53 : decode cX2_copyFrom 53 = .ok (.getfield 27, 3) := by decide +kernel
theorem dX2_copyFrom_56 : decode cX2_copyFrom 56 = .ok (.putfield 27, 3) := by decide +kernel
theorem dX2_copyFrom_59 : decode cX2_copyFrom 59 = .ok (.aload_n 0, 1) := by decide +kernel
theorem dX2_copyFrom_60 : decode cX2_copyFrom 60 = .ok (.aload_n 1, 1) := by decide +kernel
theorem dX2_copyFrom_61 : decode cX2_copyFrom 61 = .ok (.getfield 30, 3) := by decide +kernel
theorem dX2_copyFrom_64 : decode cX2_copyFrom 64 = .ok (.putfield 30, 3) := by decide +kernel
theorem dX2_copyFrom_67 : decode cX2_copyFrom 67 = .ok (.aload_n 0, 1) := by decide +kernel
theorem dX2_copyFrom_68 : decode cX2_copyFrom 68 = .ok (.aload_n 1, 1) := by decide +kernel
theorem dX2_copyFrom_69 : decode cX2_copyFrom 69 = .ok (.getfield 33, 3) := by decide +kernel
theorem dX2_copyFrom_72 : decode cX2_copyFrom 72 = .ok (.putfield 33, 3) := by decide +kernel
theorem dX2_copyFrom_75 : decode cX2_copyFrom 75 = .ok (.aload_n 0, 1) := by decide +kernel
theorem dX2_copyFrom_76 : decode cX2_copyFrom 76 = .ok (.aload_n 1, 1) := by decide +kernel
theorem dX2_copyFrom_77 : decode cX2_copyFrom 77 = .ok (.getfield 36, 3) := by decide +kernel
theorem dX2_copyFrom_80 : decode cX2_copyFrom 80 = .ok (.putfield 36, 3) := by decide +kernel
theorem dX2_copyFrom_83 : decode cX2_copyFrom 83 = .ok (.return_, 1) := by decide +kernel
theorem dX2_changePrice_0 : decode cX2_changePrice 0 = .ok (.aload_n 0, 1) := by decide +kernel
theorem dX2_changePrice_1 : decode cX2_changePrice 1 = .ok (.iconst 1, 1) := by decide +kernel
theorem dX2_changePrice_2 : decode cX2_changePrice 2 = .ok (.bipush 50, 2) := by decide +kernel
theorem dX2_changePrice_4 : decode cX2_changePrice 4 = .ok (.aload_n 0, 1) := by decide +kernel
theorem dX2_changePrice_5 : decode cX2_changePrice 5 = .ok (.getfield 15, 3) := by decide +kernel
theorem dX2_changePrice_8 : decode cX2_changePrice 8 = .ok (.iload_n 1, 1) := by decide +kernel
theorem dX2_changePrice_9 : decode cX2_changePrice 9 = .ok (.iadd, 1) := by decide +kernel
theorem dX2_changePrice_10 : decode cX2_changePrice 10 = .ok (.invokestatic 52, 3) := by decide +kernel
theorem dX2_changePrice_13 : decode cX2_changePrice 13 = .ok (.invokestatic 58, 3) := by decide +kernel
theorem dX2_changePrice_16 : decode cX2_changePrice 16 = .ok (.putfield 15, 3) := by decide +kernel
theorem dX2_changePrice_19 : decode cX2_changePrice 19 = .ok (.return_, 1) := by decide +kernel
theorem dX2_tell_0 : decode cX2_tell 0 = .ok (.iload_n 1, 1) := by decide +kernel
theorem dX2_tell_1 : decode cX2_tell 1 = .ok (.tableswitch 96 1 9 #[51, 56, 61, 66, 71, 76, 81, 86, 91], 51) := by decide +kernel
theorem dX2_tell_52 : decode cX2_tell 52 = .ok (.aload_n 0, 1) := by decide +kernel
theorem dX2_tell_53 : decode cX2_tell 53 = .ok (.getfield 9, 3) := by decide +kernel
theorem dX2_tell_56 : decode cX2_tell 56 = .ok (.ireturn, 1) := by decide +kernel
theorem dX2_tell_57 : decode cX2_tell 57 = .ok (.aload_n 0, 1) := by decide +kernel
theorem dX2_tell_58 : decode cX2_tell 58 = .ok (.getfield 15, 3) := by decide +kernel
theorem dX2_tell_61 : decode cX2_tell 61 = .ok (.ireturn, 1) := by decide +kernel
theorem dX2_tell_62 : decode cX2_tell 62 = .ok (.aload_n 0, 1) := by decide +kernel
theorem dX2_tell_63 : decode cX2_tell 63 = .ok (.getfield 18, 3) := by decide +kernel
theorem dX2_tell_66 : decode cX2_tell 66 = .ok (.ireturn, 1) := by decide +kernel
theorem dX2_tell_67 : decode cX2_tell 67 = .ok (.aload_n 0, 1) := by decide +kernel
theorem dX2_tell_68 : decode cX2_tell 68 = .ok (.getfield 21, 3) := by decide +kernel
theorem dX2_tell_71 : decode cX2_tell 71 = .ok (.ireturn, 1) := by decide +kernel
theorem dX2_tell_72 : decode cX2_tell 72 = .ok (.aload_n 0, 1) := by decide +kernel
theorem dX2_tell_73 : decode cX2_tell 73 = .ok (.getfield 24, 3) := by decide +kernel
theorem dX2_tell_76 : decode cX2_tell 76 = .ok (.ireturn, 1) := by decide +kernel
theorem dX2_tell_77 : decode cX2_tell 77 = .ok (.aload_n 0, 1) := by decide +kernel
theorem dX2_tell_78 : decode cX2_tell 78 = .ok (.getfield 27, 3) := by decide +kernel
theorem dX2_tell_81 : decode cX2_tell 81 = .ok (.ireturn, 1) := by decide +kernel
theorem dX2_tell_82 : decode cX2_tell 82 = .ok (.aload_n 0, 1) := by decide +kernel
theorem dX2_tell_83 : decode cX2_tell 83 = .ok (.getfield 30, 3) := by decide +kernel
theorem dX2_tell_86 : decode cX2_tell 86 = .ok (.ireturn, 1) := by decide +kernel
theorem dX2_tell_87 : decode cX2_tell 87 = .ok (.aload_n 0, 1) := by decide +kernel
theorem dX2_tell_88 : decode cX2_tell 88 = .ok (.getfield 33, 3) := by decide +kernel
theorem dX2_tell_91 : decode cX2_tell 91 = .ok (.ireturn, 1) := by decide +kernel
theorem dX2_tell_92 : decode cX2_tell 92 = .ok (.aload_n 0, 1) := by decide +kernel
theorem dX2_tell_93 : decode cX2_tell 93 = .ok (.getfield 36, 3) := by decide +kernel
theorem dX2_tell_96 : decode cX2_tell 96 = .ok (.ireturn, 1) := by decide +kernel
theorem dX2_tell_97 : decode cX2_tell 97 = .ok (.bipush (-2), 2) := by decide +kernel
theorem dX2_tell_99 : decode cX2_tell 99 = .ok (.ireturn, 1) := by decide +kernel
theorem dX3_init_0 : decode cX3_init 0 = .ok (.aload_n 0, 1) := by decide +kernel
theorem dX3_init_1 : decode cX3_init 1 = .ok (.invokespecial 3, 3) := by decide +kernel
theorem dX3_init_4 : decode cX3_init 4 = .ok (.aload_n 0, 1) := by decide +kernel
theorem dX3_init_5 : decode cX3_init 5 = .ok (.iconst 0, 1) := by decide +kernel
theorem dX3_init_6 : decode cX3_init 6 = .ok (.putfield 9, 3) := by decide +kernel
theorem dX3_init_9 : decode cX3_init 9 = .ok (.aload_n 0, 1) := by decide +kernel
theorem dX3_init_10 : decode cX3_init 10 = .ok (.iconst 0, 1) := by decide +kernel
theorem dX3_init_11 : decode cX3_init 11 = .ok (.putfield 15, 3) := by decide +kernel
theorem dX3_init_14 : decode cX3_init 14 = .ok (.aload_n 0, 1) := by decide +kernel
theorem dX3_init_15 : decode cX3_init 15 = .ok (.iconst 0, 1) := by decide +kernel
theorem dX3_init_16 : decode cX3_init 16 = .ok (.putfield 18, 3) := by decide +kernel
theorem dX3_init_19 : decode cX3_init 19 = .ok (.aload_n 0, 1) := by decide +kernel
theorem dX3_init_20 : decode cX3_init 20 = .ok (.iconst 0, 1) := by decide +kernel
theorem dX3_init_21 : decode cX3_init 21 = .ok (.putfield 21, 3) := by decide +kernel
theorem dX3_init_24 : decode cX3_init 24 = .ok (.aload_n 0, 1) := by decide +kernel
theorem dX3_init_25 : decode cX3_init 25 = .ok (.iconst 0, 1) := by decide +kernel
theorem dX3_init_26 : decode cX3_init 26 = .ok (.putfield 24, 3) := by decide +kernel
theorem dX3_init_29 : decode cX3_init 29 = .ok (.return_, 1) := by decide +kernel
theorem dX3_copyFrom_0 : decode cX3_copyFrom 0 = .ok (.aload_n 0, 1) := by decide +kernel
theorem dX3_copyFrom_1 : decode cX3_copyFrom 1 = .ok (.aload_n 1, 1) := by decide +kernel
theorem dX3_copyFrom_2 : decode cX3_copyFrom 2 = .ok (.getfield 9, 3) := by decide +kernel
theorem dX3_copyFrom_5 : decode cX3_copyFrom 5 = .ok (.putfield 9, 3) := by decide +kernel
theorem dX3_copyFrom_8 : decode cX3_copyFrom 8 = .ok (.aload_n 0, 1) := by decide +kernel
theorem dX3_copyFrom_9 : decode cX3_copyFrom 9 = .ok (.aload_n 1, 1) := by decide +kernel
theorem dX3_copyFrom_10 : decode cX3_copyFrom 10 = .ok (.getfield 15, 3) := by decide +kernel
theorem dX3_copyFrom_13 : decode cX3_copyFrom 13 = .ok (.putfield 15, 3) := by decide +kernel
theorem dX3_copyFrom_16 : decode cX3_copyFrom 16 = .ok (.aload_n 0, 1) := by decide +kernel
theorem dX3_copyFrom_17 : decode cX3_copyFrom 17 = .ok (.aload_n 1, 1) := by decide +kernel
theorem dX3_copyFrom_18 : decode cX3_copyFrom 18 = .ok (.getfield 18, 3) := by decide +kernel
theorem dX3_copyFrom_21 : decode cX3_copyFrom 21 = .ok (.putfield 18, 3) := by decide +kernel
theorem dX3_copyFrom_24 : decode cX3_copyFrom 24 = .ok (.aload_n 0, 1) := by decide +kernel
theorem dX3_copyFrom_25 : decode cX3_copyFrom 25 = .ok (.aload_n 1, 1) := by decide +kernel
theorem dX3_copyFrom_26 : decode cX3_copyFrom 26 = .ok (.getfield 21, 3) := by decide +kernel
theorem dX3_copyFrom_29 : decode cX3_copyFrom 29 = .ok (.putfield 21, 3) := by decide +kernel
theorem dX3_copyFrom_32 : decode cX3_copyFrom 32 = .ok (.aload_n 0, 1) := by decide +kernel
theorem dX3_copyFrom_33 : decode cX3_copyFrom 33 = .ok (.aload_n 1, 1) := by decide +kernel
theorem dX3_copyFrom_34 : decode cX3_copyFrom 34 = .ok (.getfield 24, 3) := by decide +kernel
theorem dX3_copyFrom_37 : decode cX3_copyFrom 37 = .ok (.putfield 24, 3) := by decide +kernel
theorem dX3_copyFrom_40 : decode cX3_copyFrom 40 = .ok (.return_, 1) := by decide +kernel
theorem dX3_tell_0 : decode cX3_tell 0 = .ok (.iload_n 1, 1) := by decide +kernel
theorem dX3_tell_1 : decode cX3_tell 1 = .ok (.tableswitch 60 0 4 #[35, 40, 45, 50, 55], 35) := by decide +kernel
theorem dX3_tell_36 : decode cX3_tell 36 = .ok (.aload_n 0, 1) := by decide +kernel
theorem dX3_tell_37 : decode cX3_tell 37 = .ok (.getfield 9, 3) := by decide +kernel
theorem dX3_tell_40 : decode cX3_tell 40 = .ok (.ireturn, 1) := by decide +kernel
theorem dX3_tell_41 : decode cX3_tell 41 = .ok (.aload_n 0, 1) := by decide +kernel
theorem dX3_tell_42 : decode cX3_tell 42 = .ok (.getfield 15, 3) := by decide +kernel
theorem dX3_tell_45 : decode cX3_tell 45 = .ok (.ireturn, 1) := by decide +kernel
theorem dX3_tell_46 : decode cX3_tell 46 = .ok (.aload_n 0, 1) := by decide +kernel
theorem dX3_tell_47 : decode cX3_tell 47 = .ok (.getfield 18, 3) := by decide +kernel
theorem dX3_tell_50 : decode cX3_tell 50 = .ok (.ireturn, 1) := by decide +kernel
theorem dX3_tell_51 : decode cX3_tell 51 = .ok (.aload_n 0, 1) := by decide +kernel
theorem dX3_tell_52 : decode cX3_tell 52 = .ok (.getfield 21, 3) := by decide +kernel
theorem dX3_tell_55 : decode cX3_tell 55 = .ok (.ireturn, 1) := by decide +kernel
theorem dX3_tell_56 : decode cX3_tell 56 = .ok (.aload_n 0, 1) := by decide +kernel
theorem dX3_tell_57 : decode cX3_tell 57 = .ok (.getfield 24, 3) := by decide +kernel
theorem dX3_tell_60 : decode cX3_tell 60 = .ok (.ireturn, 1) := by decide +kernel
theorem dX3_tell_61 : decode cX3_tell 61 = .ok (.bipush (-2), 2) := by decide +kernel
theorem dX3_tell_63 : decode cX3_tell 63 = .ok (.ireturn, 1) := by decide +kernel
theorem dX4_init_0 : decode cX4_init 0 = .ok (.aload_n 0, 1) := by decide +kernel
theorem dX4_init_1 : decode cX4_init 1 = .ok (.invokespecial 3, 3) := by decide +kernel
theorem dX4_init_4 : decode cX4_init 4 = .ok (.aload_n 0, 1) := by decide +kernel
theorem dX4_init_5 : decode cX4_init 5 = .ok (.iconst 0, 1) := by decide +kernel
theorem dX4_init_6 : decode cX4_init 6 = .ok (.iload_n 1, 1) := by decide +kernel
theorem dX4_init_7 : decode cX4_init 7 = .ok (.invokestatic 9, 3) := by decide +kernel
theorem dX4_init_10 : decode cX4_init 10 = .ok (.putfield 15, 3) := by decide +kernel
theorem dX4_init_13 : decode cX4_init 13 = .ok (.aload_n 0, 1) := by decide +kernel
theorem dX4_init_14 : decode cX4_init 14 = .ok (.aload_n 0, 1) := by decide +kernel
theorem dX4_init_15 : decode cX4_init 15 = .ok (.getfield 15, 3) := by decide +kernel
theorem dX4_init_18 : decode cX4_init 18 = .ok (.newarray .char, 2) := by decide +kernel
theorem dX4_init_20 : decode cX4_init 20 = .ok (.putfield 21, 3) := by decide +kernel
theorem dX4_init_23 : decode cX4_init 23 = .ok (.aload_n 0, 1) := by decide +kernel
theorem dX4_init_24 : decode cX4_init 24 = .ok (.aload_n 0, 1) := by decide +kernel
theorem dX4_init_25 : decode cX4_init 25 = .ok (.getfield 15, 3) := by decide +kernel
theorem dX4_init_28 : decode cX4_init 28 = .ok (.newarray .int, 2) := by decide +kernel
theorem dX4_init_30 : decode cX4_init 30 = .ok (.putfield 25, 3) := by decide +kernel
theorem dX4_init_33 : decode cX4_init 33 = .ok (.return_, 1) := by decide +kernel
theorem dX4_hasPhase_0 : decode cX4_hasPhase 0 = .ok (.iconst 0, 1) := by decide +kernel
theorem dX4_hasPhase_1 : decode cX4_hasPhase 1 = .ok (.iload_n 1, 1) := by decide +kernel
theorem dX4_hasPhase_2 : decode cX4_hasPhase 2 = .ok (.if_icmp .gt 15, 3) := by decide +kernel
theorem dX4_hasPhase_5 : decode cX4_hasPhase 5 = .ok (.iload_n 1, 1) := by decide +kernel
theorem dX4_hasPhase_6 : decode cX4_hasPhase 6 = .ok (.aload_n 0, 1) := by decide +kernel
theorem dX4_hasPhase_7 : decode cX4_hasPhase 7 = .ok (.getfield 15, 3) := by decide +kernel
theorem dX4_hasPhase_10 : decode cX4_hasPhase 10 = .ok (.if_icmp .ge 7, 3) := by decide +kernel
theorem dX4_hasPhase_13 : decode cX4_hasPhase 13 = .ok (.iconst 1, 1) := by decide +kernel
theorem dX4_hasPhase_14 : decode cX4_hasPhase 14 = .ok (.goto 4, 3) := by decide +kernel
theorem dX4_hasPhase_17 : decode cX4_hasPhase 17 = .ok (.iconst 0, 1) := by decide +kernel
theorem dX4_hasPhase_18 : decode cX4_hasPhase 18 = .ok (.ireturn, 1) := by decide +kernel
theorem dX4_kindOf_0 : decode cX4_kindOf 0 = .ok (.aload_n 0, 1) := by decide +kernel
theorem dX4_kindOf_1 : decode cX4_kindOf 1 = .ok (.iload_n 1, 1) := by decide +kernel
theorem dX4_kindOf_2 : decode cX4_kindOf 2 = .ok (.invokevirtual 29, 3) := by decide +kernel
theorem dX4_kindOf_5 : decode cX4_kindOf 5 = .ok (.ifCond .eq 12, 3) := by decide +kernel
theorem dX4_kindOf_8 : decode cX4_kindOf 8 = .ok (.aload_n 0, 1) := by decide +kernel
theorem dX4_kindOf_9 : decode cX4_kindOf 9 = .ok (.getfield 21, 3) := by decide +kernel
theorem dX4_kindOf_12 : decode cX4_kindOf 12 = .ok (.iload_n 1, 1) := by decide +kernel
theorem dX4_kindOf_13 : decode cX4_kindOf 13 = .ok (.caload, 1) := by decide +kernel
theorem dX4_kindOf_14 : decode cX4_kindOf 14 = .ok (.goto 4, 3) := by decide +kernel
theorem dX4_kindOf_17 : decode cX4_kindOf 17 = .ok (.iconst 0, 1) := by decide +kernel
theorem dX4_kindOf_18 : decode cX4_kindOf 18 = .ok (.ireturn, 1) := by decide +kernel
theorem dX4_numberOf_0 : decode cX4_numberOf 0 = .ok (.aload_n 0, 1) := by decide +kernel
theorem dX4_numberOf_1 : decode cX4_numberOf 1 = .ok (.iload_n 1, 1) := by decide +kernel
theorem dX4_numberOf_2 : decode cX4_numberOf 2 = .ok (.invokevirtual 29, 3) := by decide +kernel
theorem dX4_numberOf_5 : decode cX4_numberOf 5 = .ok (.ifCond .eq 12, 3) := by decide +kernel
theorem dX4_numberOf_8 : decode cX4_numberOf 8 = .ok (.aload_n 0, 1) := by decide +kernel
theorem dX4_numberOf_9 : decode cX4_numberOf 9 = .ok (.getfield 25, 3) := by decide +kernel
theorem dX4_numberOf_12 : decode cX4_numberOf 12 = .ok (.iload_n 1, 1) := by decide +kernel
theorem dX4_numberOf_13 : decode cX4_numberOf 13 = .ok (.iaload, 1) := by decide +kernel
theorem dX4_numberOf_14 : decode cX4_numberOf 14 = .ok (.goto 4, 3) := by decide +kernel
theorem dX4_numberOf_17 : decode cX4_numberOf 17 = .ok (.iconst 0, 1) := by decide +kernel
theorem dX4_numberOf_18 : decode cX4_numberOf 18 = .ok (.ireturn, 1) := by decide +kernel
theorem dX4_putKind_0 : decode cX4_putKind 0 = .ok (.aload_n 0, 1) := by decide +kernel
theorem dX4_putKind_1 : decode cX4_putKind 1 = .ok (.iload_n 1, 1) := by decide +kernel
theorem dX4_putKind_2 : decode cX4_putKind 2 = .ok (.invokevirtual 29, 3) := by decide +kernel
theorem dX4_putKind_5 : decode cX4_putKind 5 = .ok (.ifCond .eq 10, 3) := by decide +kernel
theorem dX4_putKind_8 : decode cX4_putKind 8 = .ok (.aload_n 0, 1) := by decide +kernel
theorem dX4_putKind_9 : decode cX4_putKind 9 = .ok (.getfield 21, 3) := by decide +kernel
theorem dX4_putKind_12 : decode cX4_putKind 12 = .ok (.iload_n 1, 1) := by decide +kernel
theorem dX4_putKind_13 : decode cX4_putKind 13 = .ok (.iload_n 2, 1) := by decide +kernel
theorem dX4_putKind_14 : decode cX4_putKind 14 = .ok (.castore, 1) := by decide +kernel
theorem dX4_putKind_15 : decode cX4_putKind 15 = .ok (.return_, 1) := by decide +kernel
theorem dX4_putDigit_0 : decode cX4_putDigit 0 = .ok (.aload_n 0, 1) := by decide +kernel
theorem dX4_putDigit_1 : decode cX4_putDigit 1 = .ok (.iload_n 1, 1) := by decide +kernel
theorem dX4_putDigit_2 : decode cX4_putDigit 2 = .ok (.invokevirtual 29, 3) := by decide +kernel
theorem dX4_putDigit_5 : decode cX4_putDigit 5 = .ok (.ifCond .eq 20, 3) := by decide +kernel
theorem dX4_putDigit_8 : decode cX4_putDigit 8 = .ok (.aload_n 0, 1) := by decide +kernel
theorem dX4_putDigit_9 : decode cX4_putDigit 9 = .ok (.getfield 25, 3) := by decide +kernel
theorem dX4_putDigit_12 : decode cX4_putDigit 12 = .ok (.iload_n 1, 1) := by decide +kernel
theorem dX4_putDigit_13 : decode cX4_putDigit 13 = .ok (.bipush 10, 2) := by decide +kernel
theorem dX4_putDigit_15 : decode cX4_putDigit 15 = .ok (.aload_n 0, 1) := by decide +kernel
theorem dX4_putDigit_16 : decode cX4_putDigit 16 = .ok (.getfield 25, 3) := by decide +kernel
theorem dX4_putDigit_19 : decode cX4_putDigit 19 = .ok (.iload_n 1, 1) := by decide +kernel
theorem dX4_putDigit_20 : decode cX4_putDigit 20 = .ok (.iaload, 1) := by decide +kernel
theorem dX4_putDigit_21 : decode cX4_putDigit 21 = .ok (.imul, 1) := by decide +kernel
theorem dX4_putDigit_22 : decode cX4_putDigit 22 = .ok (.iload_n 2, 1) := by decide +kernel
theorem dX4_putDigit_23 : decode cX4_putDigit 23 = .ok (.iadd, 1) := by decide +kernel
theorem dX4_putDigit_24 : decode cX4_putDigit 24 = .ok (.iastore, 1) := by decide +kernel
theorem dX4_putDigit_25 : decode cX4_putDigit 25 = .ok (.return_, 1) := by decide +kernel
theorem dX4_hasGoodNumbers_0 : decode cX4_hasGoodNumbers 0 = .ok (.iconst 0, 1) := by decide +kernel
theorem dX4_hasGoodNumbers_1 : decode cX4_hasGoodNumbers 1 = .ok (.istore_n 1, 1) := by decide +kernel
theorem dX4_hasGoodNumbers_2 : decode cX4_hasGoodNumbers 2 = .ok (.iload_n 1, 1) := by decide +kernel
theorem dX4_hasGoodNumbers_3 : decode cX4_hasGoodNumbers 3 = .ok (.aload_n 0, 1) := by decide +kernel
theorem dX4_hasGoodNumbers_4 : decode cX4_hasGoodNumbers 4 = .ok (.getfield 15, 3) := by decide +kernel
theorem dX4_hasGoodNumbers_7 : decode cX4_hasGoodNumbers 7 = .ok (.if_icmp .ge 29, 3) := by decide +kernel
theorem dX4_hasGoodNumbers_10 : decode cX4_hasGoodNumbers 10 = .ok (.aload_n 0, 1) := by decide +kernel
theorem dX4_hasGoodNumbers_11 : decode cX4_hasGoodNumbers 11 = .ok (.getfield 21, 3) := by decide +kernel
theorem dX4_hasGoodNumbers_14 : decode cX4_hasGoodNumbers 14 = .ok (.iload_n 1, 1) := by decide +kernel
theorem dX4_hasGoodNumbers_15 : decode cX4_hasGoodNumbers 15 = .ok (.caload, 1) := by decide +kernel
theorem dX4_hasGoodNumbers_16 : decode cX4_hasGoodNumbers 16 = .ok (.aload_n 0, 1) := by decide +kernel
theorem dX4_hasGoodNumbers_17 : decode cX4_hasGoodNumbers 17 = .ok (.getfield 25, 3) := by decide +kernel
theorem dX4_hasGoodNumbers_20 : decode cX4_hasGoodNumbers 20 = .ok (.iload_n 1, 1) := by decide +kernel
theorem dX4_hasGoodNumbers_21 : decode cX4_hasGoodNumbers 21 = .ok (.iaload, 1) := by decide +kernel
theorem dX4_hasGoodNumbers_22 : decode cX4_hasGoodNumbers 22 = .ok (.invokestatic 33, 3) := by decide +kernel
theorem dX4_hasGoodNumbers_25 : decode cX4_hasGoodNumbers 25 = .ok (.ifCond .ne 5, 3) := by decide +kernel
theorem dX4_hasGoodNumbers_28 : decode cX4_hasGoodNumbers 28 = .ok (.iconst 0, 1) := by decide +kernel
theorem dX4_hasGoodNumbers_29 : decode cX4_hasGoodNumbers 29 = .ok (.ireturn, 1) := by decide +kernel
theorem dX4_hasGoodNumbers_30 : decode cX4_hasGoodNumbers 30 = .ok (.iinc 1 1, 3) := by decide +kernel
theorem dX4_hasGoodNumbers_33 : decode cX4_hasGoodNumbers 33 = .ok (.goto (-31), 3) := by decide +kernel
theorem dX4_hasGoodNumbers_36 : decode cX4_hasGoodNumbers 36 = .ok (.iconst 1, 1) := by decide +kernel
theorem dX4_hasGoodNumbers_37 : decode cX4_hasGoodNumbers 37 = .ok (.ireturn, 1) := by decide +kernel
theorem dX4_isGoodNumber_0 : decode cX4_isGoodNumber 0 = .ok (.iload_n 0, 1) := by decide +kernel
theorem dX4_isGoodNumber_1 : decode cX4_isGoodNumber 1 = .ok (.lookupswitch 76 #[(102, 43), (104, 51), (115, 68), (119, 60)], 43) := by decide +kernel
theorem dX4_isGoodNumber_44 : decode cX4_isGoodNumber 44 = .ok (.iload_n 1, 1) := by decide +kernel
theorem dX4_isGoodNumber_45 : decode cX4_isGoodNumber 45 = .ok (.iconst 1, 1) := by decide +kernel
theorem dX4_isGoodNumber_46 : decode cX4_isGoodNumber 46 = .ok (.bipush 60, 2) := by decide +kernel
theorem dX4_isGoodNumber_48 : decode cX4_isGoodNumber 48 = .ok (.invokestatic 37, 3) := by decide +kernel
theorem dX4_isGoodNumber_51 : decode cX4_isGoodNumber 51 = .ok (.ireturn, 1) := by decide +kernel
theorem dX4_isGoodNumber_52 : decode cX4_isGoodNumber 52 = .ok (.iload_n 1, 1) := by decide +kernel
theorem dX4_isGoodNumber_53 : decode cX4_isGoodNumber 53 = .ok (.bipush 16, 2) := by decide +kernel
theorem dX4_isGoodNumber_55 : decode cX4_isGoodNumber 55 = .ok (.bipush 95, 2) := by decide +kernel
theorem dX4_isGoodNumber_57 : decode cX4_isGoodNumber 57 = .ok (.invokestatic 37, 3) := by decide +kernel
theorem dX4_isGoodNumber_60 : decode cX4_isGoodNumber 60 = .ok (.ireturn, 1) := by decide +kernel
theorem dX4_isGoodNumber_61 : decode cX4_isGoodNumber 61 = .ok (.iload_n 1, 1) := by decide +kernel
theorem dX4_isGoodNumber_62 : decode cX4_isGoodNumber 62 = .ok (.iconst 1, 1) := by decide +kernel
theorem dX4_isGoodNumber_63 : decode cX4_isGoodNumber 63 = .ok (.bipush 99, 2) := by decide +kernel
theorem dX4_isGoodNumber_65 : decode cX4_isGoodNumber 65 = .ok (.invokestatic 37, 3) := by decide +kernel
theorem dX4_isGoodNumber_68 : decode cX4_isGoodNumber 68 = .ok (.ireturn, 1) := by decide +kernel
theorem dX4_isGoodNumber_69 : decode cX4_isGoodNumber 69 = .ok (.iload_n 1, 1) := by decide +kernel
theorem dX4_isGoodNumber_70 : decode cX4_isGoodNumber 70 = .ok (.iconst 1, 1) := by decide +kernel
theorem dX4_isGoodNumber_71 : decode cX4_isGoodNumber 71 = .ok (.bipush 30, 2) := by decide +kernel
theorem dX4_isGoodNumber_73 : decode cX4_isGoodNumber 73 = .ok (.invokestatic 37, 3) := by decide +kernel
theorem dX4_isGoodNumber_76 : decode cX4_isGoodNumber 76 = .ok (.ireturn, 1) := by decide +kernel
theorem dX4_isGoodNumber_77 : decode cX4_isGoodNumber 77 = .ok (.iload_n 1, 1) := by decide +kernel
theorem dX4_isGoodNumber_78 : decode cX4_isGoodNumber 78 = .ok (.ifCond .ne 7, 3) := by decide +kernel
theorem dX4_isGoodNumber_81 : decode cX4_isGoodNumber 81 = .ok (.iconst 1, 1) := by decide +kernel
theorem dX4_isGoodNumber_82 : decode cX4_isGoodNumber 82 = .ok (.goto 4, 3) := by decide +kernel
theorem dX4_isGoodNumber_85 : decode cX4_isGoodNumber 85 = .ok (.iconst 0, 1) := by decide +kernel
theorem dX4_isGoodNumber_86 : decode cX4_isGoodNumber 86 = .ok (.ireturn, 1) := by decide +kernel
theorem dX5_init_0 : decode cX5_init 0 = .ok (.aload_n 0, 1) := by decide +kernel
theorem dX5_init_1 : decode cX5_init 1 = .ok (.invokespecial 3, 3) := by decide +kernel
theorem dX5_init_4 : decode cX5_init 4 = .ok (.aload_n 0, 1) := by decide +kernel
theorem dX5_init_5 : decode cX5_init 5 = .ok (.bipush 60, 2) := by decide +kernel
theorem dX5_init_7 : decode cX5_init 7 = .ok (.newarray .char, 2) := by decide +kernel
theorem dX5_init_9 : decode cX5_init 9 = .ok (.putfield 9, 3) := by decide +kernel
theorem dX5_init_12 : decode cX5_init 12 = .ok (.aload_n 0, 1) := by decide +kernel
theorem dX5_init_13 : decode cX5_init 13 = .ok (.iconst 0, 1) := by decide +kernel
theorem dX5_init_14 : decode cX5_init 14 = .ok (.putfield 15, 3) := by decide +kernel
theorem dX5_init_17 : decode cX5_init 17 = .ok (.return_, 1) := by decide +kernel
theorem dX5_append_0 : decode cX5_append 0 = .ok (.aload_n 0, 1) := by decide +kernel
theorem dX5_append_1 : decode cX5_append 1 = .ok (.getfield 15, 3) := by decide +kernel
theorem dX5_append_4 : decode cX5_append 4 = .ok (.bipush 60, 2) := by decide +kernel
theorem dX5_append_6 : decode cX5_append 6 = .ok (.if_icmp .lt 5, 3) := by decide +kernel
theorem dX5_append_9 : decode cX5_append 9 = .ok (.iconst 0, 1) := by decide +kernel
theorem dX5_append_10 : decode cX5_append 10 = .ok (.ireturn, 1) := by decide +kernel
theorem dX5_append_11 : decode cX5_append 11 = .ok (.aload_n 0, 1) := by decide +kernel
theorem dX5_append_12 : decode cX5_append 12 = .ok (.getfield 9, 3) := by decide +kernel
theorem dX5_append_15 : decode cX5_append 15 = .ok (.aload_n 0, 1) := by decide +kernel
theorem dX5_append_16 : decode cX5_append 16 = .ok (.getfield 15, 3) := by decide +kernel
theorem dX5_append_19 : decode cX5_append 19 = .ok (.iload_n 1, 1) := by decide +kernel
theorem dX5_append_20 : decode cX5_append 20 = .ok (.castore, 1) := by decide +kernel
theorem dX5_append_21 : decode cX5_append 21 = .ok (.aload_n 0, 1) := by decide +kernel
theorem dX5_append_22 : decode cX5_append 22 = .ok (.dup, 1) := by decide +kernel
theorem dX5_append_23 : decode cX5_append 23 = .ok (.getfield 15, 3) := by decide +kernel
theorem dX5_append_26 : decode cX5_append 26 = .ok (.iconst 1, 1) := by decide +kernel
theorem dX5_append_27 : decode cX5_append 27 = .ok (.iadd, 1) := by decide +kernel
theorem dX5_append_28 : decode cX5_append 28 = .ok (.putfield 15, 3) := by decide +kernel
theorem dX5_append_31 : decode cX5_append 31 = .ok (.iconst 1, 1) := by decide +kernel
theorem dX5_append_32 : decode cX5_append 32 = .ok (.ireturn, 1) := by decide +kernel
theorem dX5_firstFault_0 : decode cX5_firstFault 0 = .ok (.iconst 0, 1) := by decide +kernel
theorem dX5_firstFault_1 : decode cX5_firstFault 1 = .ok (.istore_n 1, 1) := by decide +kernel
theorem dX5_firstFault_2 : decode cX5_firstFault 2 = .ok (.iconst 0, 1) := by decide +kernel
theorem dX5_firstFault_3 : decode cX5_firstFault 3 = .ok (.istore_n 2, 1) := by decide +kernel
theorem dX5_firstFault_4 : decode cX5_firstFault 4 = .ok (.iload_n 2, 1) := by decide +kernel
theorem dX5_firstFault_5 : decode cX5_firstFault 5 = .ok (.aload_n 0, 1) := by decide +kernel
theorem dX5_firstFault_6 : decode cX5_firstFault 6 = .ok (.getfield 15, 3) := by decide +kernel
theorem dX5_firstFault_9 : decode cX5_firstFault 9 = .ok (.if_icmp .ge 28, 3) := by decide +kernel
theorem dX5_firstFault_12 : decode cX5_firstFault 12 = .ok (.iload_n 1, 1) := by decide +kernel
theorem dX5_firstFault_13 : decode cX5_firstFault 13 = .ok (.aload_n 0, 1) := by decide +kernel
theorem dX5_firstFault_14 : decode cX5_firstFault 14 = .ok (.getfield 9, 3) := by decide +kernel
theorem dX5_firstFault_17 : decode cX5_firstFault 17 = .ok (.iload_n 2, 1) := by decide +kernel
theorem dX5_firstFault_18 : decode cX5_firstFault 18 = .ok (.caload, 1) := by decide +kernel
theorem dX5_firstFault_19 : decode cX5_firstFault 19 = .ok (.invokestatic 19, 3) := by decide +kernel
theorem dX5_firstFault_22 : decode cX5_firstFault 22 = .ok (.istore_n 1, 1) := by decide +kernel
theorem dX5_firstFault_23 : decode cX5_firstFault 23 = .ok (.iload_n 1, 1) := by decide +kernel
theorem dX5_firstFault_24 : decode cX5_firstFault 24 = .ok (.bipush (-5), 2) := by decide +kernel
theorem dX5_firstFault_26 : decode cX5_firstFault 26 = .ok (.if_icmp .ne 5, 3) := by decide +kernel
theorem dX5_firstFault_29 : decode cX5_firstFault 29 = .ok (.iload_n 2, 1) := by decide +kernel
theorem dX5_firstFault_30 : decode cX5_firstFault 30 = .ok (.ireturn, 1) := by decide +kernel
theorem dX5_firstFault_31 : decode cX5_firstFault 31 = .ok (.iinc 2 1, 3) := by decide +kernel
theorem dX5_firstFault_34 : decode cX5_firstFault 34 = .ok (.goto (-30), 3) := by decide +kernel
theorem dX5_firstFault_37 : decode cX5_firstFault 37 = .ok (.iload_n 1, 1) := by decide +kernel
theorem dX5_firstFault_38 : decode cX5_firstFault 38 = .ok (.ifCond .eq 8, 3) := by decide +kernel
theorem dX5_firstFault_41 : decode cX5_firstFault 41 = .ok (.iload_n 1, 1) := by decide +kernel
theorem dX5_firstFault_42 : decode cX5_firstFault 42 = .ok (.iconst 1, 1) := by decide +kernel
theorem dX5_firstFault_43 : decode cX5_firstFault 43 = .ok (.if_icmp .ne 10, 3) := by decide +kernel
theorem dX5_firstFault_46 : decode cX5_firstFault 46 = .ok (.aload_n 0, 1) := by decide +kernel
theorem dX5_firstFault_47 : decode cX5_firstFault 47 = .ok (.getfield 15, 3) := by decide +kernel
theorem dX5_firstFault_50 : decode cX5_firstFault 50 = .ok (.goto 5, 3) := by decide +kernel
theorem dX5_firstFault_53 : decode cX5_firstFault 53 = .ok (.bipush (-5), 2) := by decide +kernel
theorem dX5_firstFault_55 : decode cX5_firstFault 55 = .ok (.ireturn, 1) := by decide +kernel
theorem dX5_placeBehind_0 : decode cX5_placeBehind 0 = .ok (.iload_n 0, 1) := by decide +kernel
theorem dX5_placeBehind_1 : decode cX5_placeBehind 1 = .ok (.tableswitch 91 0 2 #[27, 49, 69], 27) := by decide +kernel
theorem dX5_placeBehind_28 : decode cX5_placeBehind 28 = .ok (.iload_n 1, 1) := by decide +kernel
theorem dX5_placeBehind_29 : decode cX5_placeBehind 29 = .ok (.bipush 100, 2) := by decide +kernel
theorem dX5_placeBehind_31 : decode cX5_placeBehind 31 = .ok (.if_icmp .ne 5, 3) := by decide +kernel
theorem dX5_placeBehind_34 : decode cX5_placeBehind 34 = .ok (.iconst 3, 1) := by decide +kernel
theorem dX5_placeBehind_35 : decode cX5_placeBehind 35 = .ok (.ireturn, 1) := by decide +kernel
theorem dX5_placeBehind_36 : decode cX5_placeBehind 36 = .ok (.iload_n 1, 1) := by decide +kernel
theorem dX5_placeBehind_37 : decode cX5_placeBehind 37 = .ok (.invokestatic 23, 3) := by decide +kernel
theorem dX5_placeBehind_40 : decode cX5_placeBehind 40 = .ok (.ifCond .eq 7, 3) := by decide +kernel
theorem dX5_placeBehind_43 : decode cX5_placeBehind 43 = .ok (.iconst 1, 1) := by decide +kernel
theorem dX5_placeBehind_44 : decode cX5_placeBehind 44 = .ok (.goto 5, 3) := by decide +kernel
theorem dX5_placeBehind_47 : decode cX5_placeBehind 47 = .ok (.bipush (-5), 2) := by decide +kernel
theorem dX5_placeBehind_49 : decode cX5_placeBehind 49 = .ok (.ireturn, 1) := by decide +kernel
theorem dX5_placeBehind_50 : decode cX5_placeBehind 50 = .ok (.iload_n 1, 1) := by decide +kernel
theorem dX5_placeBehind_51 : decode cX5_placeBehind 51 = .ok (.invokestatic 27, 3) := by decide +kernel
theorem dX5_placeBehind_54 : decode cX5_placeBehind 54 = .ok (.ifCond .eq 13, 3) := by decide +kernel
theorem dX5_placeBehind_57 : decode cX5_placeBehind 57 = .ok (.iload_n 1, 1) := by decide +kernel
theorem dX5_placeBehind_58 : decode cX5_placeBehind 58 = .ok (.bipush 48, 2) := by decide +kernel
theorem dX5_placeBehind_60 : decode cX5_placeBehind 60 = .ok (.if_icmp .eq 7, 3) := by decide +kernel
theorem dX5_placeBehind_63 : decode cX5_placeBehind 63 = .ok (.iconst 2, 1) := by decide +kernel
theorem dX5_placeBehind_64 : decode cX5_placeBehind 64 = .ok (.goto 5, 3) := by decide +kernel
theorem dX5_placeBehind_67 : decode cX5_placeBehind 67 = .ok (.bipush (-5), 2) := by decide +kernel
theorem dX5_placeBehind_69 : decode cX5_placeBehind 69 = .ok (.ireturn, 1) := by decide +kernel
theorem dX5_placeBehind_70 : decode cX5_placeBehind 70 = .ok (.iload_n 1, 1) := by decide +kernel
theorem dX5_placeBehind_71 : decode cX5_placeBehind 71 = .ok (.invokestatic 27, 3) := by decide +kernel
theorem dX5_placeBehind_74 : decode cX5_placeBehind 74 = .ok (.ifCond .eq 5, 3) := by decide +kernel
theorem dX5_placeBehind_77 : decode cX5_placeBehind 77 = .ok (.iconst 3, 1) := by decide +kernel
theorem dX5_placeBehind_78 : decode cX5_placeBehind 78 = .ok (.ireturn, 1) := by decide +kernel
theorem dX5_placeBehind_79 : decode cX5_placeBehind 79 = .ok (.iload_n 1, 1) := by decide +kernel
theorem dX5_placeBehind_80 : decode cX5_placeBehind 80 = .ok (.bipush 59, 2) := by decide +kernel
theorem dX5_placeBehind_82 : decode cX5_placeBehind 82 = .ok (.if_icmp .ne 7, 3) := by decide +kernel
theorem dX5_placeBehind_85 : decode cX5_placeBehind 85 = .ok (.iconst 0, 1) := by decide +kernel
theorem dX5_placeBehind_86 : decode cX5_placeBehind 86 = .ok (.goto 5, 3) := by decide +kernel
theorem dX5_placeBehind_89 : decode cX5_placeBehind 89 = .ok (.bipush (-5), 2) := by decide +kernel
theorem dX5_placeBehind_91 : decode cX5_placeBehind 91 = .ok (.ireturn, 1) := by decide +kernel
theorem dX5_placeBehind_92 : decode cX5_placeBehind 92 = .ok (.iload_n 1, 1) := by decide +kernel
theorem dX5_placeBehind_93 : decode cX5_placeBehind 93 = .ok (.bipush 59, 2) := by decide +kernel
theorem dX5_placeBehind_95 : decode cX5_placeBehind 95 = .ok (.if_icmp .ne 7, 3) := by decide +kernel
theorem dX5_placeBehind_98 : decode cX5_placeBehind 98 = .ok (.iconst 0, 1) := by decide +kernel
theorem dX5_placeBehind_99 : decode cX5_placeBehind 99 = .ok (.goto 5, 3) := by decide +kernel
theorem dX5_placeBehind_102 : decode cX5_placeBehind 102 = .ok (.bipush (-5), 2) := by decide +kernel
theorem dX5_placeBehind_104 : decode cX5_placeBehind 104 = .ok (.ireturn, 1) := by decide +kernel
theorem dX5_isKindWithNumber_0 : decode cX5_isKindWithNumber 0 = .ok (.iload_n 0, 1) := by decide +kernel
theorem dX5_isKindWithNumber_1 : decode cX5_isKindWithNumber 1 = .ok (.bipush 102, 2) := by decide +kernel
theorem dX5_isKindWithNumber_3 : decode cX5_isKindWithNumber 3 = .ok (.if_icmp .eq 21, 3) := by decide +kernel
theorem dX5_isKindWithNumber_6 : decode cX5_isKindWithNumber 6 = .ok (.iload_n 0, 1) := by decide +kernel
theorem dX5_isKindWithNumber_7 : decode cX5_isKindWithNumber 7 = .ok (.bipush 104, 2) := by decide +kernel
theorem dX5_isKindWithNumber_9 : decode cX5_isKindWithNumber 9 = .ok (.if_icmp .eq 15, 3) := by decide +kernel
theorem dX5_isKindWithNumber_12 : decode cX5_isKindWithNumber 12 = .ok (.iload_n 0, 1) := by decide +kernel
theorem dX5_isKindWithNumber_13 : decode cX5_isKindWithNumber 13 = .ok (.bipush 119, 2) := by decide +kernel
theorem dX5_isKindWithNumber_15 : decode cX5_isKindWithNumber 15 = .ok (.if_icmp .eq 9, 3) := by decide +kernel
theorem dX5_isKindWithNumber_18 : decode cX5_isKindWithNumber 18 = .ok (.iload_n 0, 1) := by decide +kernel
theorem dX5_isKindWithNumber_19 : decode cX5_isKindWithNumber 19 = .ok (.bipush 115, 2) := by decide +kernel
theorem dX5_isKindWithNumber_21 : decode cX5_isKindWithNumber 21 = .ok (.if_icmp .ne 7, 3) := by decide +kernel
theorem dX5_isKindWithNumber_24 : decode cX5_isKindWithNumber 24 = .ok (.iconst 1, 1) := by decide +kernel
theorem dX5_isKindWithNumber_25 : decode cX5_isKindWithNumber 25 = .ok (.goto 4, 3) := by decide +kernel
theorem dX5_isKindWithNumber_28 : decode cX5_isKindWithNumber 28 = .ok (.iconst 0, 1) := by decide +kernel
theorem dX5_isKindWithNumber_29 : decode cX5_isKindWithNumber 29 = .ok (.ireturn, 1) := by decide +kernel
theorem dX5_isDigit_0 : decode cX5_isDigit 0 = .ok (.bipush 48, 2) := by decide +kernel
theorem dX5_isDigit_2 : decode cX5_isDigit 2 = .ok (.iload_n 0, 1) := by decide +kernel
theorem dX5_isDigit_3 : decode cX5_isDigit 3 = .ok (.if_icmp .gt 13, 3) := by decide +kernel
theorem dX5_isDigit_6 : decode cX5_isDigit 6 = .ok (.iload_n 0, 1) := by decide +kernel
theorem dX5_isDigit_7 : decode cX5_isDigit 7 = .ok (.bipush 57, 2) := by decide +kernel
theorem dX5_isDigit_9 : decode cX5_isDigit 9 = .ok (.if_icmp .gt 7, 3) := by decide +kernel
theorem dX5_isDigit_12 : decode cX5_isDigit 12 = .ok (.iconst 1, 1) := by decide +kernel
theorem dX5_isDigit_13 : decode cX5_isDigit 13 = .ok (.goto 4, 3) := by decide +kernel
theorem dX5_isDigit_16 : decode cX5_isDigit 16 = .ok (.iconst 0, 1) := by decide +kernel
theorem dX5_isDigit_17 : decode cX5_isDigit 17 = .ok (.ireturn, 1) := by decide +kernel
theorem dX5_toProgram_0 : decode cX5_toProgram 0 = .ok (.new 30, 3) := by decide +kernel
theorem dX5_toProgram_3 : decode cX5_toProgram 3 = .ok (.dup, 1) := by decide +kernel
theorem dX5_toProgram_4 : decode cX5_toProgram 4 = .ok (.aload_n 0, 1) := by decide +kernel
theorem dX5_toProgram_5 : decode cX5_toProgram 5 = .ok (.invokevirtual 32, 3) := by decide +kernel
theorem dX5_toProgram_8 : decode cX5_toProgram 8 = .ok (.iconst 1, 1) := by decide +kernel
theorem dX5_toProgram_9 : decode cX5_toProgram 9 = .ok (.iadd, 1) := by decide +kernel
theorem dX5_toProgram_10 : decode cX5_toProgram 10 = .ok (.invokespecial 36, 3) := by decide +kernel
theorem dX5_toProgram_13 : decode cX5_toProgram 13 = .ok (.astore_n 1, 1) := by decide +kernel
theorem dX5_toProgram_14 : decode cX5_toProgram 14 = .ok (.iconst 0, 1) := by decide +kernel
theorem dX5_toProgram_15 : decode cX5_toProgram 15 = .ok (.istore_n 2, 1) := by decide +kernel
theorem dX5_toProgram_16 : decode cX5_toProgram 16 = .ok (.iconst 0, 1) := by decide +kernel
theorem dX5_toProgram_17 : decode cX5_toProgram 17 = .ok (.istore_n 3, 1) := by decide +kernel
theorem dX5_toProgram_18 : decode cX5_toProgram 18 = .ok (.iload_n 3, 1) := by decide +kernel
theorem dX5_toProgram_19 : decode cX5_toProgram 19 = .ok (.aload_n 0, 1) := by decide +kernel
theorem dX5_toProgram_20 : decode cX5_toProgram 20 = .ok (.getfield 15, 3) := by decide +kernel
theorem dX5_toProgram_23 : decode cX5_toProgram 23 = .ok (.if_icmp .ge 58, 3) := by decide +kernel
theorem dX5_toProgram_26 : decode cX5_toProgram 26 = .ok (.aload_n 0, 1) := by decide +kernel
theorem dX5_toProgram_27 : decode cX5_toProgram 27 = .ok (.getfield 9, 3) := by decide +kernel
theorem dX5_toProgram_30 : decode cX5_toProgram 30 = .ok (.iload_n 3, 1) := by decide +kernel
theorem dX5_toProgram_31 : decode cX5_toProgram 31 = .ok (.caload, 1) := by decide +kernel
theorem dX5_toProgram_32 : decode cX5_toProgram 32 = .ok (.istore 4, 2) := by decide +kernel
theorem dX5_toProgram_34 : decode cX5_toProgram 34 = .ok (.iload 4, 2) := by decide +kernel
theorem dX5_toProgram_36 : decode cX5_toProgram 36 = .ok (.bipush 59, 2) := by decide +kernel
theorem dX5_toProgram_38 : decode cX5_toProgram 38 = .ok (.if_icmp .ne 9, 3) := by decide +kernel
theorem dX5_toProgram_41 : decode cX5_toProgram 41 = .ok (.iinc 2 1, 3) := by decide +kernel
theorem dX5_toProgram_44 : decode cX5_toProgram 44 = .ok (.goto 31, 3) := by decide +kernel
theorem dX5_toProgram_47 : decode cX5_toProgram 47 = .ok (.iload 4, 2) := by decide +kernel
theorem dX5_toProgram_49 : decode cX5_toProgram 49 = .ok (.invokestatic 27, 3) := by decide +kernel
theorem dX5_toProgram_52 : decode cX5_toProgram 52 = .ok (.ifCond .eq 16, 3) := by decide +kernel
theorem dX5_toProgram_55 : decode cX5_toProgram 55 = .ok (.aload_n 1, 1) := by decide +kernel
theorem dX5_toProgram_56 : decode cX5_toProgram 56 = .ok (.iload_n 2, 1) := by decide +kernel
theorem dX5_toProgram_57 : decode cX5_toProgram 57 = .ok (.iload 4, 2) := by decide +kernel
theorem dX5_toProgram_59 : decode cX5_toProgram 59 = .ok (.bipush 48, 2) := by decide +kernel
theorem dX5_toProgram_61 : decode cX5_toProgram 61 = .ok (.isub, 1) := by decide +kernel
theorem dX5_toProgram_62 : decode cX5_toProgram 62 = .ok (.invokevirtual 39, 3) := by decide +kernel
theorem dX5_toProgram_65 : decode cX5_toProgram 65 = .ok (.goto 10, 3) := by decide +kernel
theorem dX5_toProgram_68 : decode cX5_toProgram 68 = .ok (.aload_n 1, 1) := by decide +kernel
theorem dX5_toProgram_69 : decode cX5_toProgram 69 = .ok (.iload_n 2, 1) := by decide +kernel
theorem dX5_toProgram_70 : decode cX5_toProgram 70 = .ok (.iload 4, 2) := by decide +kernel
theorem dX5_toProgram_72 : decode cX5_toProgram 72 = .ok (.invokevirtual 43, 3) := by decide +kernel
theorem dX5_toProgram_75 : decode cX5_toProgram 75 = .ok (.iinc 3 1, 3) := by decide +kernel
theorem dX5_toProgram_78 : decode cX5_toProgram 78 = .ok (.goto (-60), 3) := by decide +kernel
theorem dX5_toProgram_81 : decode cX5_toProgram 81 = .ok (.aload_n 1, 1) := by decide +kernel
theorem dX5_toProgram_82 : decode cX5_toProgram 82 = .ok (.areturn, 1) := by decide +kernel
theorem dX5_separators_0 : decode cX5_separators 0 = .ok (.iconst 0, 1) := by decide +kernel
theorem dX5_separators_1 : decode cX5_separators 1 = .ok (.istore_n 1, 1) := by decide +kernel
theorem dX5_separators_2 : decode cX5_separators 2 = .ok (.iconst 0, 1) := by decide +kernel
theorem dX5_separators_3 : decode cX5_separators 3 = .ok (.istore_n 2, 1) := by decide +kernel
theorem dX5_separators_4 : decode cX5_separators 4 = .ok (.iload_n 2, 1) := by decide +kernel
theorem dX5_separators_5 : decode cX5_separators 5 = .ok (.aload_n 0, 1) := by decide +kernel
theorem dX5_separators_6 : decode cX5_separators 6 = .ok (.getfield 15, 3) := by decide +kernel
theorem dX5_separators_9 : decode cX5_separators 9 = .ok (.if_icmp .ge 28, 3) := by decide +kernel
theorem dX5_separators_12 : decode cX5_separators 12 = .ok (.iload_n 1, 1) := by decide +kernel
theorem dX5_separators_13 : decode cX5_separators 13 = .ok (.aload_n 0, 1) := by decide +kernel
theorem dX5_separators_14 : decode cX5_separators 14 = .ok (.getfield 9, 3) := by decide +kernel
theorem dX5_separators_17 : decode cX5_separators 17 = .ok (.iload_n 2, 1) := by decide +kernel
theorem dX5_separators_18 : decode cX5_separators 18 = .ok (.caload, 1) := by decide +kernel
theorem dX5_separators_19 : decode cX5_separators 19 = .ok (.bipush 59, 2) := by decide +kernel
theorem dX5_separators_21 : decode cX5_separators 21 = .ok (.if_icmp .ne 7, 3) := by decide +kernel
theorem dX5_separators_24 : decode cX5_separators 24 = .ok (.iconst 1, 1) := by decide +kernel
theorem dX5_separators_25 : decode cX5_separators 25 = .ok (.goto 4, 3) := by decide +kernel
theorem dX5_separators_28 : decode cX5_separators 28 = .ok (.iconst 0, 1) := by decide +kernel
theorem dX5_separators_29 : decode cX5_separators 29 = .ok (.iadd, 1) := by decide +kernel
theorem dX5_separators_30 : decode cX5_separators 30 = .ok (.istore_n 1, 1) := by decide +kernel
theorem dX5_separators_31 : decode cX5_separators 31 = .ok (.iinc 2 1, 3) := by decide +kernel
theorem dX5_separators_34 : decode cX5_separators 34 = .ok (.goto (-30), 3) := by decide +kernel
theorem dX5_separators_37 : decode cX5_separators 37 = .ok (.iload_n 1, 1) := by decide +kernel
theorem dX5_separators_38 : decode cX5_separators 38 = .ok (.ireturn, 1) := by decide +kernel
theorem dX6_init_0 : decode cX6_init 0 = .ok (.aload_n 0, 1) := by decide +kernel
theorem dX6_init_1 : decode cX6_init 1 = .ok (.invokespecial 3, 3) := by decide +kernel
theorem dX6_init_4 : decode cX6_init 4 = .ok (.aload_n 0, 1) := by decide +kernel
theorem dX6_init_5 : decode cX6_init 5 = .ok (.iconst 4, 1) := by decide +kernel
theorem dX6_init_6 : decode cX6_init 6 = .ok (.newarray .int, 2) := by decide +kernel
theorem dX6_init_8 : decode cX6_init 8 = .ok (.dup, 1) := by decide +kernel
theorem dX6_init_9 : decode cX6_init 9 = .ok (.iconst 0, 1) := by decide +kernel
theorem dX6_init_10 : decode cX6_init 10 = .ok (.sipush 20000, 3) := by decide +kernel
theorem dX6_init_13 : decode cX6_init 13 = .ok (.iastore, 1) := by decide +kernel
theorem dX6_init_14 : decode cX6_init 14 = .ok (.dup, 1) := by decide +kernel
theorem dX6_init_15 : decode cX6_init 15 = .ok (.iconst 1, 1) := by decide +kernel
theorem dX6_init_16 : decode cX6_init 16 = .ok (.sipush 200, 3) := by decide +kernel
theorem dX6_init_19 : decode cX6_init 19 = .ok (.iastore, 1) := by decide +kernel
theorem dX6_init_20 : decode cX6_init 20 = .ok (.dup, 1) := by decide +kernel
theorem dX6_init_21 : decode cX6_init 21 = .ok (.iconst 2, 1) := by decide +kernel
theorem dX6_init_22 : decode cX6_init 22 = .ok (.sipush 300, 3) := by decide +kernel
theorem dX6_init_25 : decode cX6_init 25 = .ok (.iastore, 1) := by decide +kernel
theorem dX6_init_26 : decode cX6_init 26 = .ok (.dup, 1) := by decide +kernel
theorem dX6_init_27 : decode cX6_init 27 = .ok (.iconst 3, 1) := by decide +kernel
theorem dX6_init_28 : decode cX6_init 28 = .ok (.bipush 40, 2) := by decide +kernel
theorem dX6_init_30 : decode cX6_init 30 = .ok (.iastore, 1) := by decide +kernel
theorem dX6_init_31 : decode cX6_init 31 = .ok (.putfield 9, 3) := by decide +kernel
theorem dX6_init_34 : decode cX6_init 34 = .ok (.aload_n 0, 1) := by decide +kernel
theorem dX6_init_35 : decode cX6_init 35 = .ok (.bipush 8, 2) := by decide +kernel
theorem dX6_init_37 : decode cX6_init 37 = .ok (.anewarray 15, 3) := by decide +kernel
theorem dX6_init_40 : decode cX6_init 40 = .ok (.putfield 17, 3) := by decide +kernel
theorem dX6_init_43 : decode cX6_init 43 = .ok (.aload_n 0, 1) := by decide +kernel
theorem dX6_init_44 : decode cX6_init 44 = .ok (.bipush 10, 2) := by decide +kernel
theorem dX6_init_46 : decode cX6_init 46 = .ok (.anewarray 21, 3) := by decide +kernel
theorem dX6_init_49 : decode cX6_init 49 = .ok (.putfield 23, 3) := by decide +kernel
theorem dX6_init_52 : decode cX6_init 52 = .ok (.aload_n 0, 1) := by decide +kernel
theorem dX6_init_53 : decode cX6_init 53 = .ok (.iconst 0, 1) := by decide +kernel
theorem dX6_init_54 : decode cX6_init 54 = .ok (.putfield 27, 3) := by decide +kernel
theorem dX6_init_57 : decode cX6_init 57 = .ok (.aload_n 0, 1) := by decide +kernel
theorem dX6_init_58 : decode cX6_init 58 = .ok (.iconst 0, 1) := by decide +kernel
theorem dX6_init_59 : decode cX6_init 59 = .ok (.putfield 31, 3) := by decide +kernel
theorem dX6_init_62 : decode cX6_init 62 = .ok (.aload_n 0, 1) := by decide +kernel
theorem dX6_init_63 : decode cX6_init 63 = .ok (.iconst 0, 1) := by decide +kernel
theorem dX6_init_64 : decode cX6_init 64 = .ok (.putfield 34, 3) := by decide +kernel
theorem dX6_init_67 : decode cX6_init 67 = .ok (.aload_n 0, 1) := by decide +kernel
theorem dX6_init_68 : decode cX6_init 68 = .ok (.iconst 0, 1) := by decide +kernel
theorem dX6_init_69 : decode cX6_init 69 = .ok (.putfield 37, 3) := by decide +kernel
theorem dX6_init_72 : decode cX6_init 72 = .ok (.aload_n 0, 1) := by decide +kernel
theorem dX6_init_73 : decode cX6_init 73 = .ok (.iconst 1, 1) := by decide +kernel
theorem dX6_init_74 : decode cX6_init 74 = .ok (.putfield 40, 3) := by decide +kernel
theorem dX6_init_77 : decode cX6_init 77 = .ok (.aload_n 0, 1) := by decide +kernel
theorem dX6_init_78 : decode cX6_init 78 = .ok (.sipush 10000, 3) := by decide +kernel
theorem dX6_init_81 : decode cX6_init 81 = .ok (.putfield 44, 3) := by decide +kernel
theorem dX6_init_84 : decode cX6_init 84 = .ok (.aload_n 0, 1) := by decide +kernel
theorem dX6_init_85 : decode cX6_init 85 = .ok (.iconst 0, 1) := by decide +kernel
theorem dX6_init_86 : decode cX6_init 86 = .ok (.putfield 47, 3) := by decide +kernel
theorem dX6_init_89 : decode cX6_init 89 = .ok (.aload_n 0, 1) := by decide +kernel
theorem dX6_init_90 : decode cX6_init 90 = .ok (.iconst 0, 1) := by decide +kernel
theorem dX6_init_91 : decode cX6_init 91 = .ok (.putfield 50, 3) := by decide +kernel
theorem dX6_init_94 : decode cX6_init 94 = .ok (.new 53, 3) := by decide +kernel
theorem dX6_init_97 : decode cX6_init 97 = .ok (.dup, 1) := by decide +kernel
theorem dX6_init_98 : decode cX6_init 98 = .ok (.iconst 0, 1) := by decide +kernel
theorem dX6_init_99 : decode cX6_init 99 = .ok (.invokespecial 55, 3) := by decide +kernel
theorem dX6_init_102 : decode cX6_init 102 = .ok (.astore_n 1, 1) := by decide +kernel
theorem dX6_init_103 : decode cX6_init 103 = .ok (.iconst 0, 1) := by decide +kernel
theorem dX6_init_104 : decode cX6_init 104 = .ok (.istore_n 2, 1) := by decide +kernel
theorem dX6_init_105 : decode cX6_init 105 = .ok (.iload_n 2, 1) := by decide +kernel
theorem dX6_init_106 : decode cX6_init 106 = .ok (.bipush 8, 2) := by decide +kernel
theorem dX6_init_108 : decode cX6_init 108 = .ok (.if_icmp .ge 23, 3) := by decide +kernel
theorem dX6_init_111 : decode cX6_init 111 = .ok (.aload_n 0, 1) := by decide +kernel
theorem dX6_init_112 : decode cX6_init 112 = .ok (.getfield 17, 3) := by decide +kernel
theorem dX6_init_115 : decode cX6_init 115 = .ok (.iload_n 2, 1) := by decide +kernel
theorem dX6_init_116 : decode cX6_init 116 = .ok (.new 15, 3) := by decide +kernel
theorem dX6_init_119 : decode cX6_init 119 = .ok (.dup, 1) := by decide +kernel
theorem dX6_init_120 : decode cX6_init 120 = .ok (.aload_n 1, 1) := by decide +kernel
theorem dX6_init_121 : decode cX6_init 121 = .ok (.invokespecial 58, 3) := by decide +kernel
theorem dX6_init_124 : decode cX6_init 124 = .ok (.aastore, 1) := by decide +kernel
theorem dX6_init_125 : decode cX6_init 125 = .ok (.iinc 2 1, 3) := by decide +kernel
theorem dX6_init_128 : decode cX6_init 128 = .ok (.goto (-23), 3) := by decide +kernel
theorem dX6_init_131 : decode cX6_init 131 = .ok (.iconst 0, 1) := by decide +kernel
theorem dX6_init_132 : decode cX6_init 132 = .ok (.istore_n 2, 1) := by decide +kernel
theorem dX6_init_133 : decode cX6_init 133 = .ok (.iload_n 2, 1) := by decide +kernel
theorem dX6_init_134 : decode cX6_init 134 = .ok (.bipush 10, 2) := by decide +kernel
theorem dX6_init_136 : decode cX6_init 136 = .ok (.if_icmp .ge 22, 3) := by decide +kernel
theorem dX6_init_139 : decode cX6_init 139 = .ok (.aload_n 0, 1) := by decide +kernel
theorem dX6_init_140 : decode cX6_init 140 = .ok (.getfield 23, 3) := by decide +kernel
theorem dX6_init_143 : decode cX6_init 143 = .ok (.iload_n 2, 1) := by decide +kernel
theorem dX6_init_144 : decode cX6_init 144 = .ok (.new 21, 3) := by decide +kernel
theorem dX6_init_147 : decode cX6_init 147 = .ok (.dup, 1) := by decide +kernel
theorem dX6_init_148 : decode cX6_init 148 = .ok (.invokespecial 61, 3) := by decide +kernel
theorem dX6_init_151 : decode cX6_init 151 = .ok (.aastore, 1) := by decide +kernel
theorem dX6_init_152 : decode cX6_init 152 = .ok (.iinc 2 1, 3) := by decide +kernel
theorem dX6_init_155 : decode cX6_init 155 = .ok (.goto (-22), 3) := by decide +kernel
theorem dX6_init_158 : decode cX6_init 158 = .ok (.return_, 1) := by decide +kernel
theorem dX6_copyFrom_0 : decode cX6_copyFrom 0 = .ok (.iconst 0, 1) := by decide +kernel
theorem dX6_copyFrom_1 : decode cX6_copyFrom 1 = .ok (.istore_n 2, 1) := by decide +kernel
theorem dX6_copyFrom_2 : decode cX6_copyFrom 2 = .ok (.iload_n 2, 1) := by decide +kernel
theorem dX6_copyFrom_3 : decode cX6_copyFrom 3 = .ok (.iconst 4, 1) := by decide +kernel
theorem dX6_copyFrom_4 : decode cX6_copyFrom 4 = .ok (.if_icmp .ge 21, 3) := by decide +kernel
theorem dX6_copyFrom_7 : decode cX6_copyFrom 7 = .ok (.aload_n 0, 1) := by decide +kernel
theorem dX6_copyFrom_8 : decode cX6_copyFrom 8 = .ok (.getfield 9, 3) := by decide +kernel
theorem dX6_copyFrom_11 : decode cX6_copyFrom 11 = .ok (.iload_n 2, 1) := by decide +kernel
theorem dX6_copyFrom_12 : decode cX6_copyFrom 12 = .ok (.aload_n 1, 1) := by decide +kernel
theorem dX6_copyFrom_13 : decode cX6_copyFrom 13 = .ok (.getfield 9, 3) := by decide +kernel
theorem dX6_copyFrom_16 : decode cX6_copyFrom 16 = .ok (.iload_n 2, 1) := by decide +kernel
theorem dX6_copyFrom_17 : decode cX6_copyFrom 17 = .ok (.iaload, 1) := by decide +kernel
theorem dX6_copyFrom_18 : decode cX6_copyFrom 18 = .ok (.iastore, 1) := by decide +kernel
theorem dX6_copyFrom_19 : decode cX6_copyFrom 19 = .ok (.iinc 2 1, 3) := by decide +kernel
theorem dX6_copyFrom_22 : decode cX6_copyFrom 22 = .ok (.goto (-20), 3) := by decide +kernel
theorem dX6_copyFrom_25 : decode cX6_copyFrom 25 = .ok (.iconst 0, 1) := by decide +kernel
theorem dX6_copyFrom_26 : decode cX6_copyFrom 26 = .ok (.istore_n 2, 1) := by decide +kernel
theorem dX6_copyFrom_27 : decode cX6_copyFrom 27 = .ok (.iload_n 2, 1) := by decide +kernel
theorem dX6_copyFrom_28 : decode cX6_copyFrom 28 = .ok (.bipush 8, 2) := by decide +kernel
theorem dX6_copyFrom_30 : decode cX6_copyFrom 30 = .ok (.if_icmp .ge 24, 3) := by decide +kernel
theorem dX6_copyFrom_33 : decode cX6_copyFrom 33 = .ok (.aload_n 0, 1) := by decide +kernel
theorem dX6_copyFrom_34 : decode cX6_copyFrom 34 = .ok (.getfield 17, 3) := by decide +kernel
theorem dX6_copyFrom_37 : decode cX6_copyFrom 37 = .ok (.iload_n 2, 1) := by decide +kernel
theorem dX6_copyFrom_38 : decode cX6_copyFrom 38 = .ok (.aaload, 1) := by decide +kernel
theorem dX6_copyFrom_39 : decode cX6_copyFrom 39 = .ok (.aload_n 1, 1) := by decide +kernel
theorem dX6_copyFrom_40 : decode cX6_copyFrom 40 = .ok (.getfield 17, 3) := by decide +kernel
theorem dX6_copyFrom_43 : decode cX6_copyFrom 43 = .ok (.iload_n 2, 1) := by decide +kernel
theorem dX6_copyFrom_44 : decode cX6_copyFrom 44 = .ok (.aaload, 1) := by decide +kernel
theorem dX6_copyFrom_45 : decode cX6_copyFrom 45 = .ok (.invokevirtual 62, 3) := by decide +kernel
theorem dX6_copyFrom_48 : decode cX6_copyFrom 48 = .ok (.iinc 2 1, 3) := by decide +kernel
theorem dX6_copyFrom_51 : decode cX6_copyFrom 51 = .ok (.goto (-24), 3) := by decide +kernel
theorem dX6_copyFrom_54 : decode cX6_copyFrom 54 = .ok (.iconst 0, 1) := by decide +kernel
theorem dX6_copyFrom_55 : decode cX6_copyFrom 55 = .ok (.istore_n 2, 1) := by decide +kernel
theorem dX6_copyFrom_56 : decode cX6_copyFrom 56 = .ok (.iload_n 2, 1) := by decide +kernel
theorem dX6_copyFrom_57 : decode cX6_copyFrom 57 = .ok (.bipush 10, 2) := by decide +kernel
theorem dX6_copyFrom_59 : decode cX6_copyFrom 59 = .ok (.if_icmp .ge 24, 3) := by decide +kernel
theorem dX6_copyFrom_62 : decode cX6_copyFrom 62 = .ok (.aload_n 0, 1) := by decide +kernel
theorem dX6_copyFrom_63 : decode cX6_copyFrom 63 = .ok (.getfield 23, 3) := by decide +kernel
theorem dX6_copyFrom_66 : decode cX6_copyFrom 66 = .ok (.iload_n 2, 1) := by decide +kernel
theorem dX6_copyFrom_67 : decode cX6_copyFrom 67 = .ok (.aaload, 1) := by decide +kernel
theorem dX6_copyFrom_68 : decode cX6_copyFrom 68 = .ok (.aload_n 1, 1) := by decide +kernel
theorem dX6_copyFrom_69 : decode cX6_copyFrom 69 = .ok (.getfield 23, 3) := by decide +kernel
theorem dX6_copyFrom_72 : decode cX6_copyFrom 72 = .ok (.iload_n 2, 1) := by decide +kernel
theorem dX6_copyFrom_73 : decode cX6_copyFrom 73 = .ok (.aaload, 1) := by decide +kernel
theorem dX6_copyFrom_74 : decode cX6_copyFrom 74 = .ok (.invokevirtual 66, 3) := by decide +kernel
theorem dX6_copyFrom_77 : decode cX6_copyFrom 77 = .ok (.iinc 2 1, 3) := by decide +kernel
theorem dX6_copyFrom_80 : decode cX6_copyFrom 80 = .ok (.goto (-24), 3) := by decide +kernel
theorem dX6_copyFrom_83 : decode cX6_copyFrom 83 = .ok (.aload_n 0, 1) := by decide +kernel
theorem dX6_copyFrom_84 : decode cX6_copyFrom 84 = .ok (.aload_n 1, 1) := by decide +kernel
theorem dX6_copyFrom_85 : decode cX6_copyFrom 85 = .ok (.getfield 27, 3) := by decide +kernel
theorem dX6_copyFrom_88 : decode cX6_copyFrom 88 = .ok (.putfield 27, 3) := by decide +kernel
theorem dX6_copyFrom_91 : decode cX6_copyFrom 91 = .ok (.aload_n 0, 1) := by decide +kernel
theorem dX6_copyFrom_92 : decode cX6_copyFrom 92 = .ok (.aload_n 1, 1) := by decide +kernel
theorem dX6_copyFrom_93 : decode cX6_copyFrom 93 = .ok (.getfield 31, 3) := by decide +kernel
theorem dX6_copyFrom_96 : decode cX6_copyFrom 96 = .ok (.putfield 31, 3) := by decide +kernel
theorem dX6_copyFrom_99 : decode cX6_copyFrom 99 = .ok (.aload_n 0, 1) := by decide +kernel
theorem dX6_copyFrom_100 : decode cX6_copyFrom 100 = .ok (.aload_n 1, 1) := by decide +kernel
theorem dX6_copyFrom_101 : decode cX6_copyFrom 101 = .ok (.getfield 34, 3) := by decide +kernel
theorem dX6_copyFrom_104 : decode cX6_copyFrom 104 = .ok (.putfield 34, 3) := by decide +kernel
theorem dX6_copyFrom_107 : decode cX6_copyFrom 107 = .ok (.aload_n 0, 1) := by decide +kernel
theorem dX6_copyFrom_108 : decode cX6_copyFrom 108 = .ok (.aload_n 1, 1) := by decide +kernel
theorem dX6_copyFrom_109 : decode cX6_copyFrom 109 = .ok (.getfield 37, 3) := by decide +kernel
theorem dX6_copyFrom_112 : decode cX6_copyFrom 112 = .ok (.putfield 37, 3) := by decide +kernel
theorem dX6_copyFrom_115 : decode cX6_copyFrom 115 = .ok (.aload_n 0, 1) := by decide +kernel
theorem dX6_copyFrom_116 : decode cX6_copyFrom 116 = .ok (.aload_n 1, 1) := by decide +kernel
theorem dX6_copyFrom_117 : decode cX6_copyFrom 117 = .ok (.getfield 40, 3) := by decide +kernel
theorem dX6_copyFrom_120 : decode cX6_copyFrom 120 = .ok (.putfield 40, 3) := by decide +kernel
theorem dX6_copyFrom_123 : decode cX6_copyFrom 123 = .ok (.aload_n 0, 1) := by decide +kernel
theorem dX6_copyFrom_124 : decode cX6_copyFrom 124 = .ok (.aload_n 1, 1) := by decide +kernel
theorem dX6_copyFrom_125 : decode cX6_copyFrom 125 = .ok (.getfield 44, 3) := by decide +kernel
theorem dX6_copyFrom_128 : decode cX6_copyFrom 128 = .ok (.putfield 44, 3) := by decide +kernel
theorem dX6_copyFrom_131 : decode cX6_copyFrom 131 = .ok (.aload_n 0, 1) := by decide +kernel
theorem dX6_copyFrom_132 : decode cX6_copyFrom 132 = .ok (.aload_n 1, 1) := by decide +kernel
theorem dX6_copyFrom_133 : decode cX6_copyFrom 133 = .ok (.getfield 47, 3) := by decide +kernel
theorem dX6_copyFrom_136 : decode cX6_copyFrom 136 = .ok (.putfield 47, 3) := by decide +kernel
theorem dX6_copyFrom_139 : decode cX6_copyFrom 139 = .ok (.aload_n 0, 1) := by decide +kernel
theorem dX6_copyFrom_140 : decode cX6_copyFrom 140 = .ok (.aload_n 1, 1) := by decide +kernel
theorem dX6_copyFrom_141 : decode cX6_copyFrom 141 = .ok (.getfield 50, 3) := by decide +kernel
theorem dX6_copyFrom_144 : decode cX6_copyFrom 144 = .ok (.putfield 50, 3) := by decide +kernel
theorem dX6_copyFrom_147 : decode cX6_copyFrom 147 = .ok (.return_, 1) := by decide +kernel
theorem dX6_hasHouse_0 : decode cX6_hasHouse 0 = .ok (.iload_n 1, 1) := by decide +kernel
theorem dX6_hasHouse_1 : decode cX6_hasHouse 1 = .ok (.iconst 0, 1) := by decide +kernel
theorem dX6_hasHouse_2 : decode cX6_hasHouse 2 = .ok (.aload_n 0, 1) := by decide +kernel
theorem dX6_hasHouse_3 : decode cX6_hasHouse 3 = .ok (.getfield 27, 3) := by decide +kernel
theorem dX6_hasHouse_6 : decode cX6_hasHouse 6 = .ok (.iconst 1, 1) := by decide +kernel
theorem dX6_hasHouse_7 : decode cX6_hasHouse 7 = .ok (.isub, 1) := by decide +kernel
theorem dX6_hasHouse_8 : decode cX6_hasHouse 8 = .ok (.invokestatic 69, 3) := by decide +kernel
theorem dX6_hasHouse_11 : decode cX6_hasHouse 11 = .ok (.ireturn, 1) := by decide +kernel
theorem dX6_washerOf_0 : decode cX6_washerOf 0 = .ok (.aload_n 0, 1) := by decide +kernel
theorem dX6_washerOf_1 : decode cX6_washerOf 1 = .ok (.getfield 17, 3) := by decide +kernel
theorem dX6_washerOf_4 : decode cX6_washerOf 4 = .ok (.iload_n 1, 1) := by decide +kernel
theorem dX6_washerOf_5 : decode cX6_washerOf 5 = .ok (.aaload, 1) := by decide +kernel
theorem dX6_washerOf_6 : decode cX6_washerOf 6 = .ok (.getfield 73, 3) := by decide +kernel
theorem dX6_washerOf_9 : decode cX6_washerOf 9 = .ok (.areturn, 1) := by decide +kernel
theorem dX6_settle_0 : decode cX6_settle 0 = .ok (.aload_n 0, 1) := by decide +kernel
theorem dX6_settle_1 : decode cX6_settle 1 = .ok (.getfield 17, 3) := by decide +kernel
theorem dX6_settle_4 : decode cX6_settle 4 = .ok (.aload_n 0, 1) := by decide +kernel
theorem dX6_settle_5 : decode cX6_settle 5 = .ok (.getfield 27, 3) := by decide +kernel
theorem dX6_settle_8 : decode cX6_settle 8 = .ok (.aaload, 1) := by decide +kernel
theorem dX6_settle_9 : decode cX6_settle 9 = .ok (.astore 4, 2) := by decide +kernel
theorem dX6_settle_11 : decode cX6_settle 11 = .ok (.aload 4, 2) := by decide +kernel
theorem dX6_settle_13 : decode cX6_settle 13 = .ok (.iload_n 1, 1) := by decide +kernel
theorem dX6_settle_14 : decode cX6_settle 14 = .ok (.putfield 77, 3) := by decide +kernel
theorem dX6_settle_17 : decode cX6_settle 17 = .ok (.aload 4, 2) := by decide +kernel
theorem dX6_settle_19 : decode cX6_settle 19 = .ok (.iload_n 2, 1) := by decide +kernel
theorem dX6_settle_20 : decode cX6_settle 20 = .ok (.putfield 80, 3) := by decide +kernel
theorem dX6_settle_23 : decode cX6_settle 23 = .ok (.aload 4, 2) := by decide +kernel
theorem dX6_settle_25 : decode cX6_settle 25 = .ok (.iload_n 3, 1) := by decide +kernel
theorem dX6_settle_26 : decode cX6_settle 26 = .ok (.putfield 83, 3) := by decide +kernel
theorem dX6_settle_29 : decode cX6_settle 29 = .ok (.aload_n 0, 1) := by decide +kernel
theorem dX6_settle_30 : decode cX6_settle 30 = .ok (.dup, 1) := by decide +kernel
theorem dX6_settle_31 : decode cX6_settle 31 = .ok (.getfield 27, 3) := by decide +kernel
theorem dX6_settle_34 : decode cX6_settle 34 = .ok (.iconst 1, 1) := by decide +kernel
theorem dX6_settle_35 : decode cX6_settle 35 = .ok (.iadd, 1) := by decide +kernel
theorem dX6_settle_36 : decode cX6_settle 36 = .ok (.putfield 27, 3) := by decide +kernel
theorem dX6_settle_39 : decode cX6_settle 39 = .ok (.aload_n 0, 1) := by decide +kernel
theorem dX6_settle_40 : decode cX6_settle 40 = .ok (.getfield 27, 3) := by decide +kernel
theorem dX6_settle_43 : decode cX6_settle 43 = .ok (.iconst 1, 1) := by decide +kernel
theorem dX6_settle_44 : decode cX6_settle 44 = .ok (.isub, 1) := by decide +kernel
theorem dX6_settle_45 : decode cX6_settle 45 = .ok (.ireturn, 1) := by decide +kernel
theorem dX6_switchPower_0 : decode cX6_switchPower 0 = .ok (.aload_n 0, 1) := by decide +kernel
theorem dX6_switchPower_1 : decode cX6_switchPower 1 = .ok (.iload_n 1, 1) := by decide +kernel
theorem dX6_switchPower_2 : decode cX6_switchPower 2 = .ok (.putfield 40, 3) := by decide +kernel
theorem dX6_switchPower_5 : decode cX6_switchPower 5 = .ok (.iconst 0, 1) := by decide +kernel
theorem dX6_switchPower_6 : decode cX6_switchPower 6 = .ok (.istore_n 2, 1) := by decide +kernel
theorem dX6_switchPower_7 : decode cX6_switchPower 7 = .ok (.iload_n 1, 1) := by decide +kernel
theorem dX6_switchPower_8 : decode cX6_switchPower 8 = .ok (.ifCond .eq 25, 3) := by decide +kernel
theorem dX6_switchPower_11 : decode cX6_switchPower 11 = .ok (.iload_n 2, 1) := by decide +kernel
theorem dX6_switchPower_12 : decode cX6_switchPower 12 = .ok (.aload_n 0, 1) := by decide +kernel
theorem dX6_switchPower_13 : decode cX6_switchPower 13 = .ok (.getfield 27, 3) := by decide +kernel
theorem dX6_switchPower_16 : decode cX6_switchPower 16 = .ok (.if_icmp .ge 17, 3) := by decide +kernel
theorem dX6_switchPower_19 : decode cX6_switchPower 19 = .ok (.aload_n 0, 1) := by decide +kernel
theorem dX6_switchPower_20 : decode cX6_switchPower 20 = .ok (.iload_n 2, 1) := by decide +kernel
theorem dX6_switchPower_21 : decode cX6_switchPower 21 = .ok (.invokevirtual 86, 3) := by decide +kernel
theorem dX6_switchPower_24 : decode cX6_switchPower 24 = .ok (.invokevirtual 90, 3) := by decide +kernel
theorem dX6_switchPower_27 : decode cX6_switchPower 27 = .ok (.iinc 2 1, 3) := by decide +kernel
theorem dX6_switchPower_30 : decode cX6_switchPower 30 = .ok (.goto (-23), 3) := by decide +kernel
theorem dX6_switchPower_33 : decode cX6_switchPower 33 = .ok (.return_, 1) := by decide +kernel
theorem dX6_hasUnlockedAbove_0 : decode cX6_hasUnlockedAbove 0 = .ok (.iconst 0, 1) := by decide +kernel
theorem dX6_hasUnlockedAbove_1 : decode cX6_hasUnlockedAbove 1 = .ok (.istore_n 2, 1) := by decide +kernel
theorem dX6_hasUnlockedAbove_2 : decode cX6_hasUnlockedAbove 2 = .ok (.iload_n 2, 1) := by decide +kernel
theorem dX6_hasUnlockedAbove_3 : decode cX6_hasUnlockedAbove 3 = .ok (.aload_n 0, 1) := by decide +kernel
theorem dX6_hasUnlockedAbove_4 : decode cX6_hasUnlockedAbove 4 = .ok (.getfield 27, 3) := by decide +kernel
theorem dX6_hasUnlockedAbove_7 : decode cX6_hasUnlockedAbove 7 = .ok (.if_icmp .ge 35, 3) := by decide +kernel
theorem dX6_hasUnlockedAbove_10 : decode cX6_hasUnlockedAbove 10 = .ok (.aload_n 0, 1) := by decide +kernel
theorem dX6_hasUnlockedAbove_11 : decode cX6_hasUnlockedAbove 11 = .ok (.iload_n 2, 1) := by decide +kernel
theorem dX6_hasUnlockedAbove_12 : decode cX6_hasUnlockedAbove 12 = .ok (.invokevirtual 86, 3) := by decide +kernel
theorem dX6_hasUnlockedAbove_15 : decode cX6_hasUnlockedAbove 15 = .ok (.getfield 95, 3) := by decide +kernel
theorem dX6_hasUnlockedAbove_18 : decode cX6_hasUnlockedAbove 18 = .ok (.iconst 2, 1) := by decide +kernel
theorem dX6_hasUnlockedAbove_19 : decode cX6_hasUnlockedAbove 19 = .ok (.if_icmp .eq 17, 3) := by decide +kernel
theorem dX6_hasUnlockedAbove_22 : decode cX6_hasUnlockedAbove 22 = .ok (.aload_n 0, 1) := by decide +kernel
theorem dX6_hasUnlockedAbove_23 : decode cX6_hasUnlockedAbove 23 = .ok (.iload_n 2, 1) := by decide +kernel
theorem dX6_hasUnlockedAbove_24 : decode cX6_hasUnlockedAbove 24 = .ok (.invokevirtual 86, 3) := by decide +kernel
theorem dX6_hasUnlockedAbove_27 : decode cX6_hasUnlockedAbove 27 = .ok (.invokevirtual 98, 3) := by decide +kernel
theorem dX6_hasUnlockedAbove_30 : decode cX6_hasUnlockedAbove 30 = .ok (.iload_n 1, 1) := by decide +kernel
theorem dX6_hasUnlockedAbove_31 : decode cX6_hasUnlockedAbove 31 = .ok (.if_icmp .le 5, 3) := by decide +kernel
theorem dX6_hasUnlockedAbove_34 : decode cX6_hasUnlockedAbove 34 = .ok (.iconst 1, 1) := by decide +kernel
theorem dX6_hasUnlockedAbove_35 : decode cX6_hasUnlockedAbove 35 = .ok (.ireturn, 1) := by decide +kernel
theorem dX6_hasUnlockedAbove_36 : decode cX6_hasUnlockedAbove 36 = .ok (.iinc 2 1, 3) := by decide +kernel
theorem dX6_hasUnlockedAbove_39 : decode cX6_hasUnlockedAbove 39 = .ok (.goto (-37), 3) := by decide +kernel
theorem dX6_hasUnlockedAbove_42 : decode cX6_hasUnlockedAbove 42 = .ok (.iconst 0, 1) := by decide +kernel
theorem dX6_hasUnlockedAbove_43 : decode cX6_hasUnlockedAbove 43 = .ok (.ireturn, 1) := by decide +kernel
theorem dX6_lentOf_0 : decode cX6_lentOf 0 = .ok (.iconst 0, 1) := by decide +kernel
theorem dX6_lentOf_1 : decode cX6_lentOf 1 = .ok (.istore_n 2, 1) := by decide +kernel
theorem dX6_lentOf_2 : decode cX6_lentOf 2 = .ok (.iconst 0, 1) := by decide +kernel
theorem dX6_lentOf_3 : decode cX6_lentOf 3 = .ok (.istore_n 3, 1) := by decide +kernel
theorem dX6_lentOf_4 : decode cX6_lentOf 4 = .ok (.iload_n 3, 1) := by decide +kernel
theorem dX6_lentOf_5 : decode cX6_lentOf 5 = .ok (.aload_n 0, 1) := by decide +kernel
theorem dX6_lentOf_6 : decode cX6_lentOf 6 = .ok (.getfield 31, 3) := by decide +kernel
theorem dX6_lentOf_9 : decode cX6_lentOf 9 = .ok (.if_icmp .ge 38, 3) := by decide +kernel
theorem dX6_lentOf_12 : decode cX6_lentOf 12 = .ok (.iload_n 2, 1) := by decide +kernel
theorem dX6_lentOf_13 : decode cX6_lentOf 13 = .ok (.aload_n 0, 1) := by decide +kernel
theorem dX6_lentOf_14 : decode cX6_lentOf 14 = .ok (.getfield 23, 3) := by decide +kernel
theorem dX6_lentOf_17 : decode cX6_lentOf 17 = .ok (.iload_n 3, 1) := by decide +kernel
theorem dX6_lentOf_18 : decode cX6_lentOf 18 = .ok (.aaload, 1) := by decide +kernel
theorem dX6_lentOf_19 : decode cX6_lentOf 19 = .ok (.getfield 102, 3) := by decide +kernel
theorem dX6_lentOf_22 : decode cX6_lentOf 22 = .ok (.iload_n 1, 1) := by decide +kernel
theorem dX6_lentOf_23 : decode cX6_lentOf 23 = .ok (.if_icmp .ne 15, 3) := by decide +kernel
theorem dX6_lentOf_26 : decode cX6_lentOf 26 = .ok (.aload_n 0, 1) := by decide +kernel
theorem dX6_lentOf_27 : decode cX6_lentOf 27 = .ok (.getfield 23, 3) := by decide +kernel
theorem dX6_lentOf_30 : decode cX6_lentOf 30 = .ok (.iload_n 3, 1) := by decide +kernel
theorem dX6_lentOf_31 : decode cX6_lentOf 31 = .ok (.aaload, 1) := by decide +kernel
theorem dX6_lentOf_32 : decode cX6_lentOf 32 = .ok (.getfield 105, 3) := by decide +kernel
theorem dX6_lentOf_35 : decode cX6_lentOf 35 = .ok (.goto 4, 3) := by decide +kernel
theorem dX6_lentOf_38 : decode cX6_lentOf 38 = .ok (.iconst 0, 1) := by decide +kernel
theorem dX6_lentOf_39 : decode cX6_lentOf 39 = .ok (.iadd, 1) := by decide +kernel
theorem dX6_lentOf_40 : decode cX6_lentOf 40 = .ok (.istore_n 2, 1) := by decide +kernel
theorem dX6_lentOf_41 : decode cX6_lentOf 41 = .ok (.iinc 3 1, 3) := by decide +kernel
theorem dX6_lentOf_44 : decode cX6_lentOf 44 = .ok (.goto (-40), 3) := by decide +kernel
theorem dX6_lentOf_47 : decode cX6_lentOf 47 = .ok (.iload_n 2, 1) := by decide +kernel
theorem dX6_lentOf_48 : decode cX6_lentOf 48 = .ok (.ireturn, 1) := by decide +kernel
theorem dX6_unlentOf_0 : decode cX6_unlentOf 0 = .ok (.aload_n 0, 1) := by decide +kernel
theorem dX6_unlentOf_1 : decode cX6_unlentOf 1 = .ok (.getfield 17, 3) := by decide +kernel
theorem dX6_unlentOf_4 : decode cX6_unlentOf 4 = .ok (.iload_n 1, 1) := by decide +kernel
theorem dX6_unlentOf_5 : decode cX6_unlentOf 5 = .ok (.aaload, 1) := by decide +kernel
theorem dX6_unlentOf_6 : decode cX6_unlentOf 6 = .ok (.getfield 77, 3) := by decide +kernel
theorem dX6_unlentOf_9 : decode cX6_unlentOf 9 = .ok (.aload_n 0, 1) := by decide +kernel
theorem dX6_unlentOf_10 : decode cX6_unlentOf 10 = .ok (.iload_n 1, 1) := by decide +kernel
theorem dX6_unlentOf_11 : decode cX6_unlentOf 11 = .ok (.invokevirtual 108, 3) := by decide +kernel
theorem dX6_unlentOf_14 : decode cX6_unlentOf 14 = .ok (.isub, 1) := by decide +kernel
theorem dX6_unlentOf_15 : decode cX6_unlentOf 15 = .ok (.ireturn, 1) := by decide +kernel
theorem dX6_sharesOf_0 : decode cX6_sharesOf 0 = .ok (.aload_n 0, 1) := by decide +kernel
theorem dX6_sharesOf_1 : decode cX6_sharesOf 1 = .ok (.iload_n 1, 1) := by decide +kernel
theorem dX6_sharesOf_2 : decode cX6_sharesOf 2 = .ok (.invokevirtual 112, 3) := by decide +kernel
theorem dX6_sharesOf_5 : decode cX6_sharesOf 5 = .ok (.istore_n 2, 1) := by decide +kernel
theorem dX6_sharesOf_6 : decode cX6_sharesOf 6 = .ok (.iconst 0, 1) := by decide +kernel
theorem dX6_sharesOf_7 : decode cX6_sharesOf 7 = .ok (.istore_n 3, 1) := by decide +kernel
theorem dX6_sharesOf_8 : decode cX6_sharesOf 8 = .ok (.iload_n 3, 1) := by decide +kernel
theorem dX6_sharesOf_9 : decode cX6_sharesOf 9 = .ok (.aload_n 0, 1) := by decide +kernel
theorem dX6_sharesOf_10 : decode cX6_sharesOf 10 = .ok (.getfield 31, 3) := by decide +kernel
theorem dX6_sharesOf_13 : decode cX6_sharesOf 13 = .ok (.if_icmp .ge 38, 3) := by decide +kernel
theorem dX6_sharesOf_16 : decode cX6_sharesOf 16 = .ok (.iload_n 2, 1) := by decide +kernel
theorem dX6_sharesOf_17 : decode cX6_sharesOf 17 = .ok (.aload_n 0, 1) := by decide +kernel
theorem dX6_sharesOf_18 : decode cX6_sharesOf 18 = .ok (.getfield 23, 3) := by decide +kernel
theorem dX6_sharesOf_21 : decode cX6_sharesOf 21 = .ok (.iload_n 3, 1) := by decide +kernel
theorem dX6_sharesOf_22 : decode cX6_sharesOf 22 = .ok (.aaload, 1) := by decide +kernel
theorem dX6_sharesOf_23 : decode cX6_sharesOf 23 = .ok (.getfield 115, 3) := by decide +kernel
theorem dX6_sharesOf_26 : decode cX6_sharesOf 26 = .ok (.iload_n 1, 1) := by decide +kernel
theorem dX6_sharesOf_27 : decode cX6_sharesOf 27 = .ok (.if_icmp .ne 15, 3) := by decide +kernel
theorem dX6_sharesOf_30 : decode cX6_sharesOf 30 = .ok (.aload_n 0, 1) := by decide +kernel
theorem dX6_sharesOf_31 : decode cX6_sharesOf 31 = .ok (.getfield 23, 3) := by decide +kernel
theorem dX6_sharesOf_34 : decode cX6_sharesOf 34 = .ok (.iload_n 3, 1) := by decide +kernel
theorem dX6_sharesOf_35 : decode cX6_sharesOf 35 = .ok (.aaload, 1) := by decide +kernel
theorem dX6_sharesOf_36 : decode cX6_sharesOf 36 = .ok (.getfield 105, 3) := by decide +kernel
theorem dX6_sharesOf_39 : decode cX6_sharesOf 39 = .ok (.goto 4, 3) := by decide +kernel
theorem dX6_sharesOf_42 : decode cX6_sharesOf 42 = .ok (.iconst 0, 1) := by decide +kernel
theorem dX6_sharesOf_43 : decode cX6_sharesOf 43 = .ok (.iadd, 1) := by decide +kernel
theorem dX6_sharesOf_44 : decode cX6_sharesOf 44 = .ok (.istore_n 2, 1) := by decide +kernel
theorem dX6_sharesOf_45 : decode cX6_sharesOf 45 = .ok (.iinc 3 1, 3) := by decide +kernel
theorem dX6_sharesOf_48 : decode cX6_sharesOf 48 = .ok (.goto (-40), 3) := by decide +kernel
theorem dX6_sharesOf_51 : decode cX6_sharesOf 51 = .ok (.iload_n 2, 1) := by decide +kernel
theorem dX6_sharesOf_52 : decode cX6_sharesOf 52 = .ok (.ireturn, 1) := by decide +kernel
theorem dX6_askOf_0 : decode cX6_askOf 0 = .ok (.iload_n 2, 1) := by decide +kernel
theorem dX6_askOf_1 : decode cX6_askOf 1 = .ok (.aload_n 0, 1) := by decide +kernel
theorem dX6_askOf_2 : decode cX6_askOf 2 = .ok (.getfield 17, 3) := by decide +kernel
theorem dX6_askOf_5 : decode cX6_askOf 5 = .ok (.iload_n 1, 1) := by decide +kernel
theorem dX6_askOf_6 : decode cX6_askOf 6 = .ok (.aaload, 1) := by decide +kernel
theorem dX6_askOf_7 : decode cX6_askOf 7 = .ok (.getfield 80, 3) := by decide +kernel
theorem dX6_askOf_10 : decode cX6_askOf 10 = .ok (.imul, 1) := by decide +kernel
theorem dX6_askOf_11 : decode cX6_askOf 11 = .ok (.istore_n 3, 1) := by decide +kernel
theorem dX6_askOf_12 : decode cX6_askOf 12 = .ok (.aload_n 0, 1) := by decide +kernel
theorem dX6_askOf_13 : decode cX6_askOf 13 = .ok (.iload_n 1, 1) := by decide +kernel
theorem dX6_askOf_14 : decode cX6_askOf 14 = .ok (.invokevirtual 86, 3) := by decide +kernel
theorem dX6_askOf_17 : decode cX6_askOf 17 = .ok (.getfield 118, 3) := by decide +kernel
theorem dX6_askOf_20 : decode cX6_askOf 20 = .ok (.iconst 1, 1) := by decide +kernel
theorem dX6_askOf_21 : decode cX6_askOf 21 = .ok (.if_icmp .ne 9, 3) := by decide +kernel
theorem dX6_askOf_24 : decode cX6_askOf 24 = .ok (.iconst 2, 1) := by decide +kernel
theorem dX6_askOf_25 : decode cX6_askOf 25 = .ok (.iload_n 3, 1) := by decide +kernel
theorem dX6_askOf_26 : decode cX6_askOf 26 = .ok (.imul, 1) := by decide +kernel
theorem dX6_askOf_27 : decode cX6_askOf 27 = .ok (.goto 4, 3) := by decide +kernel
theorem dX6_askOf_30 : decode cX6_askOf 30 = .ok (.iload_n 3, 1) := by decide +kernel
theorem dX6_askOf_31 : decode cX6_askOf 31 = .ok (.ireturn, 1) := by decide +kernel
theorem dX6_refuse_0 : decode cX6_refuse 0 = .ok (.aload_n 0, 1) := by decide +kernel
theorem dX6_refuse_1 : decode cX6_refuse 1 = .ok (.getfield 17, 3) := by decide +kernel
theorem dX6_refuse_4 : decode cX6_refuse 4 = .ok (.iload_n 1, 1) := by decide +kernel
theorem dX6_refuse_5 : decode cX6_refuse 5 = .ok (.aaload, 1) := by decide +kernel
theorem dX6_refuse_6 : decode cX6_refuse 6 = .ok (.dup, 1) := by decide +kernel
theorem dX6_refuse_7 : decode cX6_refuse 7 = .ok (.getfield 121, 3) := by decide +kernel
theorem dX6_refuse_10 : decode cX6_refuse 10 = .ok (.iconst 1, 1) := by decide +kernel
theorem dX6_refuse_11 : decode cX6_refuse 11 = .ok (.iadd, 1) := by decide +kernel
theorem dX6_refuse_12 : decode cX6_refuse 12 = .ok (.putfield 121, 3) := by decide +kernel
theorem dX6_refuse_15 : decode cX6_refuse 15 = .ok (.aload_n 0, 1) := by decide +kernel
theorem dX6_refuse_16 : decode cX6_refuse 16 = .ok (.getfield 17, 3) := by decide +kernel
theorem dX6_refuse_19 : decode cX6_refuse 19 = .ok (.iload_n 2, 1) := by decide +kernel
theorem dX6_refuse_20 : decode cX6_refuse 20 = .ok (.aaload, 1) := by decide +kernel
theorem dX6_refuse_21 : decode cX6_refuse 21 = .ok (.iload_n 3, 1) := by decide +kernel
theorem dX6_refuse_22 : decode cX6_refuse 22 = .ok (.ifCond .eq 7, 3) := by decide +kernel
theorem dX6_refuse_25 : decode cX6_refuse 25 = .ok (.iconst (-1), 1) := by decide +kernel
theorem dX6_refuse_26 : decode cX6_refuse 26 = .ok (.goto 4, 3) := by decide +kernel
theorem dX6_refuse_29 : decode cX6_refuse 29 = .ok (.iconst 1, 1) := by decide +kernel
theorem dX6_refuse_30 : decode cX6_refuse 30 = .ok (.invokevirtual 124, 3) := by decide +kernel
theorem dX6_refuse_33 : decode cX6_refuse 33 = .ok (.return_, 1) := by decide +kernel
theorem dX6_pay_0 : decode cX6_pay 0 = .ok (.aload_n 0, 1) := by decide +kernel
theorem dX6_pay_1 : decode cX6_pay 1 = .ok (.getfield 17, 3) := by decide +kernel
theorem dX6_pay_4 : decode cX6_pay 4 = .ok (.iload_n 1, 1) := by decide +kernel
theorem dX6_pay_5 : decode cX6_pay 5 = .ok (.aaload, 1) := by decide +kernel
theorem dX6_pay_6 : decode cX6_pay 6 = .ok (.dup, 1) := by decide +kernel
theorem dX6_pay_7 : decode cX6_pay 7 = .ok (.getfield 83, 3) := by decide +kernel
theorem dX6_pay_10 : decode cX6_pay 10 = .ok (.iload_n 3, 1) := by decide +kernel
theorem dX6_pay_11 : decode cX6_pay 11 = .ok (.isub, 1) := by decide +kernel
theorem dX6_pay_12 : decode cX6_pay 12 = .ok (.putfield 83, 3) := by decide +kernel
theorem dX6_pay_15 : decode cX6_pay 15 = .ok (.aload_n 0, 1) := by decide +kernel
theorem dX6_pay_16 : decode cX6_pay 16 = .ok (.getfield 17, 3) := by decide +kernel
theorem dX6_pay_19 : decode cX6_pay 19 = .ok (.iload_n 1, 1) := by decide +kernel
theorem dX6_pay_20 : decode cX6_pay 20 = .ok (.aaload, 1) := by decide +kernel
theorem dX6_pay_21 : decode cX6_pay 21 = .ok (.dup, 1) := by decide +kernel
theorem dX6_pay_22 : decode cX6_pay 22 = .ok (.getfield 127, 3) := by decide +kernel
theorem dX6_pay_25 : decode cX6_pay 25 = .ok (.iload_n 3, 1) := by decide +kernel
theorem dX6_pay_26 : decode cX6_pay 26 = .ok (.iadd, 1) := by decide +kernel
theorem dX6_pay_27 : decode cX6_pay 27 = .ok (.putfield 127, 3) := by decide +kernel
theorem dX6_pay_30 : decode cX6_pay 30 = .ok (.aload_n 0, 1) := by decide +kernel
theorem dX6_pay_31 : decode cX6_pay 31 = .ok (.getfield 17, 3) := by decide +kernel
theorem dX6_pay_34 : decode cX6_pay 34 = .ok (.iload_n 1, 1) := by decide +kernel
theorem dX6_pay_35 : decode cX6_pay 35 = .ok (.aaload, 1) := by decide +kernel
theorem dX6_pay_36 : decode cX6_pay 36 = .ok (.dup, 1) := by decide +kernel
theorem dX6_pay_37 : decode cX6_pay 37 = .ok (.getfield 130, 3) := by decide +kernel
theorem dX6_pay_40 : decode cX6_pay 40 = .ok (.iconst 1, 1) := by decide +kernel
theorem dX6_pay_41 : decode cX6_pay 41 = .ok (.iadd, 1) := by decide +kernel
theorem dX6_pay_42 : decode cX6_pay 42 = .ok (.putfield 130, 3) := by decide +kernel
theorem dX6_pay_45 : decode cX6_pay 45 = .ok (.aload_n 0, 1) := by decide +kernel
theorem dX6_pay_46 : decode cX6_pay 46 = .ok (.getfield 17, 3) := by decide +kernel
theorem dX6_pay_49 : decode cX6_pay 49 = .ok (.iload_n 2, 1) := by decide +kernel
theorem dX6_pay_50 : decode cX6_pay 50 = .ok (.aaload, 1) := by decide +kernel
theorem dX6_pay_51 : decode cX6_pay 51 = .ok (.dup, 1) := by decide +kernel
theorem dX6_pay_52 : decode cX6_pay 52 = .ok (.getfield 83, 3) := by decide +kernel
theorem dX6_pay_55 : decode cX6_pay 55 = .ok (.iload_n 3, 1) := by decide +kernel
theorem dX6_pay_56 : decode cX6_pay 56 = .ok (.iadd, 1) := by decide +kernel
theorem dX6_pay_57 : decode cX6_pay 57 = .ok (.putfield 83, 3) := by decide +kernel
theorem dX6_pay_60 : decode cX6_pay 60 = .ok (.aload_n 0, 1) := by decide +kernel
theorem dX6_pay_61 : decode cX6_pay 61 = .ok (.getfield 17, 3) := by decide +kernel
theorem dX6_pay_64 : decode cX6_pay 64 = .ok (.iload_n 2, 1) := by decide +kernel
theorem dX6_pay_65 : decode cX6_pay 65 = .ok (.aaload, 1) := by decide +kernel
theorem dX6_pay_66 : decode cX6_pay 66 = .ok (.dup, 1) := by decide +kernel
theorem dX6_pay_67 : decode cX6_pay 67 = .ok (.getfield 133, 3) := by decide +kernel
theorem dX6_pay_70 : decode cX6_pay 70 = .ok (.iload_n 3, 1) := by decide +kernel
theorem dX6_pay_71 : decode cX6_pay 71 = .ok (.iadd, 1) := by decide +kernel
theorem dX6_pay_72 : decode cX6_pay 72 = .ok (.putfield 133, 3) := by decide +kernel
theorem dX6_pay_75 : decode cX6_pay 75 = .ok (.aload_n 0, 1) := by decide +kernel
theorem dX6_pay_76 : decode cX6_pay 76 = .ok (.getfield 17, 3) := by decide +kernel
theorem dX6_pay_79 : decode cX6_pay 79 = .ok (.iload_n 2, 1) := by decide +kernel
theorem dX6_pay_80 : decode cX6_pay 80 = .ok (.aaload, 1) := by decide +kernel
theorem dX6_pay_81 : decode cX6_pay 81 = .ok (.iconst 1, 1) := by decide +kernel
theorem dX6_pay_82 : decode cX6_pay 82 = .ok (.invokevirtual 124, 3) := by decide +kernel
theorem dX6_pay_85 : decode cX6_pay 85 = .ok (.return_, 1) := by decide +kernel
theorem dX6_lend_0 : decode cX6_lend 0 = .ok (.aload_n 0, 1) := by decide +kernel
theorem dX6_lend_1 : decode cX6_lend 1 = .ok (.getfield 23, 3) := by decide +kernel
theorem dX6_lend_4 : decode cX6_lend 4 = .ok (.aload_n 0, 1) := by decide +kernel
theorem dX6_lend_5 : decode cX6_lend 5 = .ok (.getfield 31, 3) := by decide +kernel
theorem dX6_lend_8 : decode cX6_lend 8 = .ok (.aaload, 1) := by decide +kernel
theorem dX6_lend_9 : decode cX6_lend 9 = .ok (.astore 6, 2) := by decide +kernel
theorem dX6_lend_11 : decode cX6_lend 11 = .ok (.aload 6, 2) := by decide +kernel
theorem dX6_lend_13 : decode cX6_lend 13 = .ok (.iload_n 2, 1) := by decide +kernel
theorem dX6_lend_14 : decode cX6_lend 14 = .ok (.putfield 102, 3) := by decide +kernel
theorem dX6_lend_17 : decode cX6_lend 17 = .ok (.aload 6, 2) := by decide +kernel
theorem dX6_lend_19 : decode cX6_lend 19 = .ok (.iload_n 1, 1) := by decide +kernel
theorem dX6_lend_20 : decode cX6_lend 20 = .ok (.putfield 115, 3) := by decide +kernel
theorem dX6_lend_23 : decode cX6_lend 23 = .ok (.aload 6, 2) := by decide +kernel
theorem dX6_lend_25 : decode cX6_lend 25 = .ok (.iload_n 3, 1) := by decide +kernel
theorem dX6_lend_26 : decode cX6_lend 26 = .ok (.putfield 105, 3) := by decide +kernel
theorem dX6_lend_29 : decode cX6_lend 29 = .ok (.aload 6, 2) := by decide +kernel
theorem dX6_lend_31 : decode cX6_lend 31 = .ok (.iload 4, 2) := by decide +kernel
theorem dX6_lend_33 : decode cX6_lend 33 = .ok (.putfield 136, 3) := by decide +kernel
theorem dX6_lend_36 : decode cX6_lend 36 = .ok (.aload 6, 2) := by decide +kernel
theorem dX6_lend_38 : decode cX6_lend 38 = .ok (.iload 5, 2) := by decide +kernel
theorem dX6_lend_40 : decode cX6_lend 40 = .ok (.putfield 139, 3) := by decide +kernel
theorem dX6_lend_43 : decode cX6_lend 43 = .ok (.aload_n 0, 1) := by decide +kernel
theorem dX6_lend_44 : decode cX6_lend 44 = .ok (.dup, 1) := by decide +kernel
theorem dX6_lend_45 : decode cX6_lend 45 = .ok (.getfield 31, 3) := by decide +kernel
theorem dX6_lend_48 : decode cX6_lend 48 = .ok (.iconst 1, 1) := by decide +kernel
theorem dX6_lend_49 : decode cX6_lend 49 = .ok (.iadd, 1) := by decide +kernel
theorem dX6_lend_50 : decode cX6_lend 50 = .ok (.putfield 31, 3) := by decide +kernel
theorem dX6_lend_53 : decode cX6_lend 53 = .ok (.return_, 1) := by decide +kernel
theorem dX6_wantedHeat_0 : decode cX6_wantedHeat 0 = .ok (.iconst 0, 1) := by decide +kernel
theorem dX6_wantedHeat_1 : decode cX6_wantedHeat 1 = .ok (.istore_n 1, 1) := by decide +kernel
theorem dX6_wantedHeat_2 : decode cX6_wantedHeat 2 = .ok (.iconst 0, 1) := by decide +kernel
theorem dX6_wantedHeat_3 : decode cX6_wantedHeat 3 = .ok (.istore_n 2, 1) := by decide +kernel
theorem dX6_wantedHeat_4 : decode cX6_wantedHeat 4 = .ok (.iload_n 2, 1) := by decide +kernel
theorem dX6_wantedHeat_5 : decode cX6_wantedHeat 5 = .ok (.aload_n 0, 1) := by decide +kernel
theorem dX6_wantedHeat_6 : decode cX6_wantedHeat 6 = .ok (.getfield 27, 3) := by decide +kernel
theorem dX6_wantedHeat_9 : decode cX6_wantedHeat 9 = .ok (.if_icmp .ge 20, 3) := by decide +kernel
theorem dX6_wantedHeat_12 : decode cX6_wantedHeat 12 = .ok (.iload_n 1, 1) := by decide +kernel
theorem dX6_wantedHeat_13 : decode cX6_wantedHeat 13 = .ok (.aload_n 0, 1) := by decide +kernel
theorem dX6_wantedHeat_14 : decode cX6_wantedHeat 14 = .ok (.iload_n 2, 1) := by decide +kernel
theorem dX6_wantedHeat_15 : decode cX6_wantedHeat 15 = .ok (.invokevirtual 86, 3) := by decide +kernel
theorem dX6_wantedHeat_18 : decode cX6_wantedHeat 18 = .ok (.invokevirtual 140, 3) := by decide +kernel
theorem dX6_wantedHeat_21 : decode cX6_wantedHeat 21 = .ok (.iadd, 1) := by decide +kernel
theorem dX6_wantedHeat_22 : decode cX6_wantedHeat 22 = .ok (.istore_n 1, 1) := by decide +kernel
theorem dX6_wantedHeat_23 : decode cX6_wantedHeat 23 = .ok (.iinc 2 1, 3) := by decide +kernel
theorem dX6_wantedHeat_26 : decode cX6_wantedHeat 26 = .ok (.goto (-22), 3) := by decide +kernel
theorem dX6_wantedHeat_29 : decode cX6_wantedHeat 29 = .ok (.iload_n 1, 1) := by decide +kernel
theorem dX6_wantedHeat_30 : decode cX6_wantedHeat 30 = .ok (.ireturn, 1) := by decide +kernel
theorem dX6_divideHeat_0 : decode cX6_divideHeat 0 = .ok (.iconst 0, 1) := by decide +kernel
theorem dX6_divideHeat_1 : decode cX6_divideHeat 1 = .ok (.istore_n 2, 1) := by decide +kernel
theorem dX6_divideHeat_2 : decode cX6_divideHeat 2 = .ok (.iload_n 2, 1) := by decide +kernel
theorem dX6_divideHeat_3 : decode cX6_divideHeat 3 = .ok (.bipush 8, 2) := by decide +kernel
theorem dX6_divideHeat_5 : decode cX6_divideHeat 5 = .ok (.if_icmp .ge 59, 3) := by decide +kernel
theorem dX6_divideHeat_8 : decode cX6_divideHeat 8 = .ok (.aload_n 1, 1) := by decide +kernel
theorem dX6_divideHeat_9 : decode cX6_divideHeat 9 = .ok (.getfield 143, 3) := by decide +kernel
theorem dX6_divideHeat_12 : decode cX6_divideHeat 12 = .ok (.iload_n 2, 1) := by decide +kernel
theorem dX6_divideHeat_13 : decode cX6_divideHeat 13 = .ok (.iload_n 2, 1) := by decide +kernel
theorem dX6_divideHeat_14 : decode cX6_divideHeat 14 = .ok (.aload_n 0, 1) := by decide +kernel
theorem dX6_divideHeat_15 : decode cX6_divideHeat 15 = .ok (.getfield 27, 3) := by decide +kernel
theorem dX6_divideHeat_18 : decode cX6_divideHeat 18 = .ok (.if_icmp .ge 14, 3) := by decide +kernel
theorem dX6_divideHeat_21 : decode cX6_divideHeat 21 = .ok (.aload_n 0, 1) := by decide +kernel
theorem dX6_divideHeat_22 : decode cX6_divideHeat 22 = .ok (.iload_n 2, 1) := by decide +kernel
theorem dX6_divideHeat_23 : decode cX6_divideHeat 23 = .ok (.invokevirtual 86, 3) := by decide +kernel
theorem dX6_divideHeat_26 : decode cX6_divideHeat 26 = .ok (.invokevirtual 140, 3) := by decide +kernel
theorem dX6_divideHeat_29 : decode cX6_divideHeat 29 = .ok (.goto 4, 3) := by decide +kernel
theorem dX6_divideHeat_32 : decode cX6_divideHeat 32 = .ok (.iconst 0, 1) := by decide +kernel
theorem dX6_divideHeat_33 : decode cX6_divideHeat 33 = .ok (.iastore, 1) := by decide +kernel
theorem dX6_divideHeat_34 : decode cX6_divideHeat 34 = .ok (.aload_n 1, 1) := by decide +kernel
theorem dX6_divideHeat_35 : decode cX6_divideHeat 35 = .ok (.getfield 148, 3) := by decide +kernel
theorem dX6_divideHeat_38 : decode cX6_divideHeat 38 = .ok (.iload_n 2, 1) := by decide +kernel
theorem dX6_divideHeat_39 : decode cX6_divideHeat 39 = .ok (.aload_n 1, 1) := by decide +kernel
theorem dX6_divideHeat_40 : decode cX6_divideHeat 40 = .ok (.getfield 143, 3) := by decide +kernel
theorem dX6_divideHeat_43 : decode cX6_divideHeat 43 = .ok (.iload_n 2, 1) := by decide +kernel
theorem dX6_divideHeat_44 : decode cX6_divideHeat 44 = .ok (.iaload, 1) := by decide +kernel
theorem dX6_divideHeat_45 : decode cX6_divideHeat 45 = .ok (.ifCond .le 11, 3) := by decide +kernel
theorem dX6_divideHeat_48 : decode cX6_divideHeat 48 = .ok (.aload_n 0, 1) := by decide +kernel
theorem dX6_divideHeat_49 : decode cX6_divideHeat 49 = .ok (.iload_n 2, 1) := by decide +kernel
theorem dX6_divideHeat_50 : decode cX6_divideHeat 50 = .ok (.invokevirtual 150, 3) := by decide +kernel
theorem dX6_divideHeat_53 : decode cX6_divideHeat 53 = .ok (.goto 4, 3) := by decide +kernel
theorem dX6_divideHeat_56 : decode cX6_divideHeat 56 = .ok (.iconst 0, 1) := by decide +kernel
theorem dX6_divideHeat_57 : decode cX6_divideHeat 57 = .ok (.iastore, 1) := by decide +kernel
theorem dX6_divideHeat_58 : decode cX6_divideHeat 58 = .ok (.iinc 2 1, 3) := by decide +kernel
theorem dX6_divideHeat_61 : decode cX6_divideHeat 61 = .ok (.goto (-59), 3) := by decide +kernel
theorem dX6_divideHeat_64 : decode cX6_divideHeat 64 = .ok (.aload_n 1, 1) := by decide +kernel
theorem dX6_divideHeat_65 : decode cX6_divideHeat 65 = .ok (.aload_n 0, 1) := by decide +kernel
theorem dX6_divideHeat_66 : decode cX6_divideHeat 66 = .ok (.getfield 9, 3) := by decide +kernel
theorem dX6_divideHeat_69 : decode cX6_divideHeat 69 = .ok (.iconst 2, 1) := by decide +kernel
theorem dX6_divideHeat_70 : decode cX6_divideHeat 70 = .ok (.iaload, 1) := by decide +kernel
theorem dX6_divideHeat_71 : decode cX6_divideHeat 71 = .ok (.aload_n 0, 1) := by decide +kernel
theorem dX6_divideHeat_72 : decode cX6_divideHeat 72 = .ok (.invokevirtual 153, 3) := by decide +kernel
theorem dX6_divideHeat_75 : decode cX6_divideHeat 75 = .ok (.invokestatic 156, 3) := by decide +kernel
theorem dX6_divideHeat_78 : decode cX6_divideHeat 78 = .ok (.invokevirtual 162, 3) := by decide +kernel
theorem dX6_divideHeat_81 : decode cX6_divideHeat 81 = .ok (.return_, 1) := by decide +kernel
theorem dX6_storeWithInput_0 : decode cX6_storeWithInput 0 = .ok (.aload_n 0, 1) := by decide +kernel
theorem dX6_storeWithInput_1 : decode cX6_storeWithInput 1 = .ok (.getfield 9, 3) := by decide +kernel
theorem dX6_storeWithInput_4 : decode cX6_storeWithInput 4 = .ok (.iconst 0, 1) := by decide +kernel
theorem dX6_storeWithInput_5 : decode cX6_storeWithInput 5 = .ok (.iaload, 1) := by decide +kernel
theorem dX6_storeWithInput_6 : decode cX6_storeWithInput 6 = .ok (.aload_n 0, 1) := by decide +kernel
theorem dX6_storeWithInput_7 : decode cX6_storeWithInput 7 = .ok (.getfield 44, 3) := by decide +kernel
theorem dX6_storeWithInput_10 : decode cX6_storeWithInput 10 = .ok (.aload_n 0, 1) := by decide +kernel
theorem dX6_storeWithInput_11 : decode cX6_storeWithInput 11 = .ok (.getfield 9, 3) := by decide +kernel
theorem dX6_storeWithInput_14 : decode cX6_storeWithInput 14 = .ok (.iconst 1, 1) := by decide +kernel
theorem dX6_storeWithInput_15 : decode cX6_storeWithInput 15 = .ok (.iaload, 1) := by decide +kernel
theorem dX6_storeWithInput_16 : decode cX6_storeWithInput 16 = .ok (.iadd, 1) := by decide +kernel
theorem dX6_storeWithInput_17 : decode cX6_storeWithInput 17 = .ok (.invokestatic 156, 3) := by decide +kernel
theorem dX6_storeWithInput_20 : decode cX6_storeWithInput 20 = .ok (.ireturn, 1) := by decide +kernel
theorem dX6_passMinute_0 : decode cX6_passMinute 0 = .ok (.iconst 0, 1) := by decide +kernel
theorem dX6_passMinute_1 : decode cX6_passMinute 1 = .ok (.istore_n 2, 1) := by decide +kernel
theorem dX6_passMinute_2 : decode cX6_passMinute 2 = .ok (.aload_n 0, 1) := by decide +kernel
theorem dX6_passMinute_3 : decode cX6_passMinute 3 = .ok (.getfield 40, 3) := by decide +kernel
theorem dX6_passMinute_6 : decode cX6_passMinute 6 = .ok (.ifCond .eq 17, 3) := by decide +kernel
theorem dX6_passMinute_9 : decode cX6_passMinute 9 = .ok (.aload_n 0, 1) := by decide +kernel
theorem dX6_passMinute_10 : decode cX6_passMinute 10 = .ok (.aload_n 1, 1) := by decide +kernel
theorem dX6_passMinute_11 : decode cX6_passMinute 11 = .ok (.invokevirtual 165, 3) := by decide +kernel
theorem dX6_passMinute_14 : decode cX6_passMinute 14 = .ok (.istore_n 2, 1) := by decide +kernel
theorem dX6_passMinute_15 : decode cX6_passMinute 15 = .ok (.aload_n 0, 1) := by decide +kernel
theorem dX6_passMinute_16 : decode cX6_passMinute 16 = .ok (.aload_n 1, 1) := by decide +kernel
theorem dX6_passMinute_17 : decode cX6_passMinute 17 = .ok (.invokevirtual 169, 3) := by decide +kernel
theorem dX6_passMinute_20 : decode cX6_passMinute 20 = .ok (.goto 13, 3) := by decide +kernel
theorem dX6_passMinute_23 : decode cX6_passMinute 23 = .ok (.aload_n 0, 1) := by decide +kernel
theorem dX6_passMinute_24 : decode cX6_passMinute 24 = .ok (.dup, 1) := by decide +kernel
theorem dX6_passMinute_25 : decode cX6_passMinute 25 = .ok (.getfield 37, 3) := by decide +kernel
theorem dX6_passMinute_28 : decode cX6_passMinute 28 = .ok (.iconst 1, 1) := by decide +kernel
theorem dX6_passMinute_29 : decode cX6_passMinute 29 = .ok (.iadd, 1) := by decide +kernel
theorem dX6_passMinute_30 : decode cX6_passMinute 30 = .ok (.putfield 37, 3) := by decide +kernel
theorem dX6_passMinute_33 : decode cX6_passMinute 33 = .ok (.iconst 0, 1) := by decide +kernel
theorem dX6_passMinute_34 : decode cX6_passMinute 34 = .ok (.istore_n 3, 1) := by decide +kernel
theorem dX6_passMinute_35 : decode cX6_passMinute 35 = .ok (.iload_n 3, 1) := by decide +kernel
theorem dX6_passMinute_36 : decode cX6_passMinute 36 = .ok (.aload_n 0, 1) := by decide +kernel
theorem dX6_passMinute_37 : decode cX6_passMinute 37 = .ok (.getfield 27, 3) := by decide +kernel
theorem dX6_passMinute_40 : decode cX6_passMinute 40 = .ok (.if_icmp .ge 38, 3) := by decide +kernel
theorem dX6_passMinute_43 : decode cX6_passMinute 43 = .ok (.aload_n 0, 1) := by decide +kernel
theorem dX6_passMinute_44 : decode cX6_passMinute 44 = .ok (.iload_n 3, 1) := by decide +kernel
theorem dX6_passMinute_45 : decode cX6_passMinute 45 = .ok (.invokevirtual 86, 3) := by decide +kernel
theorem dX6_passMinute_48 : decode cX6_passMinute 48 = .ok (.invokevirtual 173, 3) := by decide +kernel
theorem dX6_passMinute_51 : decode cX6_passMinute 51 = .ok (.aload_n 0, 1) := by decide +kernel
theorem dX6_passMinute_52 : decode cX6_passMinute 52 = .ok (.getfield 40, 3) := by decide +kernel
theorem dX6_passMinute_55 : decode cX6_passMinute 55 = .ok (.ifCond .eq 17, 3) := by decide +kernel
theorem dX6_passMinute_58 : decode cX6_passMinute 58 = .ok (.aload_n 0, 1) := by decide +kernel
theorem dX6_passMinute_59 : decode cX6_passMinute 59 = .ok (.iload_n 3, 1) := by decide +kernel
theorem dX6_passMinute_60 : decode cX6_passMinute 60 = .ok (.invokevirtual 86, 3) := by decide +kernel
theorem dX6_passMinute_63 : decode cX6_passMinute 63 = .ok (.aload_n 0, 1) := by decide +kernel
theorem dX6_passMinute_64 : decode cX6_passMinute 64 = .ok (.getfield 9, 3) := by decide +kernel
theorem dX6_passMinute_67 : decode cX6_passMinute 67 = .ok (.iconst 3, 1) := by decide +kernel
theorem dX6_passMinute_68 : decode cX6_passMinute 68 = .ok (.iaload, 1) := by decide +kernel
theorem dX6_passMinute_69 : decode cX6_passMinute 69 = .ok (.invokevirtual 176, 3) := by decide +kernel
theorem dX6_passMinute_72 : decode cX6_passMinute 72 = .ok (.iinc 3 1, 3) := by decide +kernel
theorem dX6_passMinute_75 : decode cX6_passMinute 75 = .ok (.goto (-40), 3) := by decide +kernel
theorem dX6_passMinute_78 : decode cX6_passMinute 78 = .ok (.aload_n 0, 1) := by decide +kernel
theorem dX6_passMinute_79 : decode cX6_passMinute 79 = .ok (.invokevirtual 179, 3) := by decide +kernel
theorem dX6_passMinute_82 : decode cX6_passMinute 82 = .ok (.aload_n 0, 1) := by decide +kernel
theorem dX6_passMinute_83 : decode cX6_passMinute 83 = .ok (.dup, 1) := by decide +kernel
theorem dX6_passMinute_84 : decode cX6_passMinute 84 = .ok (.getfield 34, 3) := by decide +kernel
theorem dX6_passMinute_87 : decode cX6_passMinute 87 = .ok (.iconst 1, 1) := by decide +kernel
theorem dX6_passMinute_88 : decode cX6_passMinute 88 = .ok (.iadd, 1) := by decide +kernel
theorem dX6_passMinute_89 : decode cX6_passMinute 89 = .ok (.putfield 34, 3) := by decide +kernel
theorem dX6_passMinute_92 : decode cX6_passMinute 92 = .ok (.iload_n 2, 1) := by decide +kernel
theorem dX6_passMinute_93 : decode cX6_passMinute 93 = .ok (.ireturn, 1) := by decide +kernel
theorem dX6_giveHeat_0 : decode cX6_giveHeat 0 = .ok (.aload_n 0, 1) := by decide +kernel
theorem dX6_giveHeat_1 : decode cX6_giveHeat 1 = .ok (.aload_n 1, 1) := by decide +kernel
theorem dX6_giveHeat_2 : decode cX6_giveHeat 2 = .ok (.invokevirtual 182, 3) := by decide +kernel
theorem dX6_giveHeat_5 : decode cX6_giveHeat 5 = .ok (.aload_n 0, 1) := by decide +kernel
theorem dX6_giveHeat_6 : decode cX6_giveHeat 6 = .ok (.invokevirtual 153, 3) := by decide +kernel
theorem dX6_giveHeat_9 : decode cX6_giveHeat 9 = .ok (.istore_n 2, 1) := by decide +kernel
theorem dX6_giveHeat_10 : decode cX6_giveHeat 10 = .ok (.aload_n 0, 1) := by decide +kernel
theorem dX6_giveHeat_11 : decode cX6_giveHeat 11 = .ok (.dup, 1) := by decide +kernel
theorem dX6_giveHeat_12 : decode cX6_giveHeat 12 = .ok (.getfield 47, 3) := by decide +kernel
theorem dX6_giveHeat_15 : decode cX6_giveHeat 15 = .ok (.iload_n 2, 1) := by decide +kernel
theorem dX6_giveHeat_16 : decode cX6_giveHeat 16 = .ok (.aload_n 0, 1) := by decide +kernel
theorem dX6_giveHeat_17 : decode cX6_giveHeat 17 = .ok (.getfield 44, 3) := by decide +kernel
theorem dX6_giveHeat_20 : decode cX6_giveHeat 20 = .ok (.isub, 1) := by decide +kernel
theorem dX6_giveHeat_21 : decode cX6_giveHeat 21 = .ok (.iadd, 1) := by decide +kernel
theorem dX6_giveHeat_22 : decode cX6_giveHeat 22 = .ok (.putfield 47, 3) := by decide +kernel
theorem dX6_giveHeat_25 : decode cX6_giveHeat 25 = .ok (.iconst 0, 1) := by decide +kernel
theorem dX6_giveHeat_26 : decode cX6_giveHeat 26 = .ok (.istore_n 3, 1) := by decide +kernel
theorem dX6_giveHeat_27 : decode cX6_giveHeat 27 = .ok (.iconst 0, 1) := by decide +kernel
theorem dX6_giveHeat_28 : decode cX6_giveHeat 28 = .ok (.istore 4, 2) := by decide +kernel
theorem dX6_giveHeat_30 : decode cX6_giveHeat 30 = .ok (.iload 4, 2) := by decide +kernel
theorem dX6_giveHeat_32 : decode cX6_giveHeat 32 = .ok (.aload_n 0, 1) := by decide +kernel
theorem dX6_giveHeat_33 : decode cX6_giveHeat 33 = .ok (.getfield 27, 3) := by decide +kernel
theorem dX6_giveHeat_36 : decode cX6_giveHeat 36 = .ok (.if_icmp .ge 41, 3) := by decide +kernel
theorem dX6_giveHeat_39 : decode cX6_giveHeat 39 = .ok (.aload_n 0, 1) := by decide +kernel
theorem dX6_giveHeat_40 : decode cX6_giveHeat 40 = .ok (.getfield 17, 3) := by decide +kernel
theorem dX6_giveHeat_43 : decode cX6_giveHeat 43 = .ok (.iload 4, 2) := by decide +kernel
theorem dX6_giveHeat_45 : decode cX6_giveHeat 45 = .ok (.aaload, 1) := by decide +kernel
theorem dX6_giveHeat_46 : decode cX6_giveHeat 46 = .ok (.dup, 1) := by decide +kernel
theorem dX6_giveHeat_47 : decode cX6_giveHeat 47 = .ok (.getfield 185, 3) := by decide +kernel
theorem dX6_giveHeat_50 : decode cX6_giveHeat 50 = .ok (.aload_n 1, 1) := by decide +kernel
theorem dX6_giveHeat_51 : decode cX6_giveHeat 51 = .ok (.getfield 188, 3) := by decide +kernel
theorem dX6_giveHeat_54 : decode cX6_giveHeat 54 = .ok (.iload 4, 2) := by decide +kernel
theorem dX6_giveHeat_56 : decode cX6_giveHeat 56 = .ok (.iaload, 1) := by decide +kernel
theorem dX6_giveHeat_57 : decode cX6_giveHeat 57 = .ok (.iadd, 1) := by decide +kernel
theorem dX6_giveHeat_58 : decode cX6_giveHeat 58 = .ok (.putfield 185, 3) := by decide +kernel
theorem dX6_giveHeat_61 : decode cX6_giveHeat 61 = .ok (.iload_n 3, 1) := by decide +kernel
theorem dX6_giveHeat_62 : decode cX6_giveHeat 62 = .ok (.aload_n 1, 1) := by decide +kernel
theorem dX6_giveHeat_63 : decode cX6_giveHeat 63 = .ok (.getfield 188, 3) := by decide +kernel
theorem dX6_giveHeat_66 : decode cX6_giveHeat 66 = .ok (.iload 4, 2) := by decide +kernel
theorem dX6_giveHeat_68 : decode cX6_giveHeat 68 = .ok (.iaload, 1) := by decide +kernel
theorem dX6_giveHeat_69 : decode cX6_giveHeat 69 = .ok (.iadd, 1) := by decide +kernel
theorem dX6_giveHeat_70 : decode cX6_giveHeat 70 = .ok (.istore_n 3, 1) := by decide +kernel
theorem dX6_giveHeat_71 : decode cX6_giveHeat 71 = .ok (.iinc 4 1, 3) := by decide +kernel
theorem dX6_giveHeat_74 : decode cX6_giveHeat 74 = .ok (.goto (-44), 3) := by decide +kernel
theorem dX6_giveHeat_77 : decode cX6_giveHeat 77 = .ok (.aload_n 0, 1) := by decide +kernel
theorem dX6_giveHeat_78 : decode cX6_giveHeat 78 = .ok (.iload_n 2, 1) := by decide +kernel
theorem dX6_giveHeat_79 : decode cX6_giveHeat 79 = .ok (.iload_n 3, 1) := by decide +kernel
theorem dX6_giveHeat_80 : decode cX6_giveHeat 80 = .ok (.isub, 1) := by decide +kernel
theorem dX6_giveHeat_81 : decode cX6_giveHeat 81 = .ok (.putfield 44, 3) := by decide +kernel
theorem dX6_giveHeat_84 : decode cX6_giveHeat 84 = .ok (.aload_n 0, 1) := by decide +kernel
theorem dX6_giveHeat_85 : decode cX6_giveHeat 85 = .ok (.dup, 1) := by decide +kernel
theorem dX6_giveHeat_86 : decode cX6_giveHeat 86 = .ok (.getfield 50, 3) := by decide +kernel
theorem dX6_giveHeat_89 : decode cX6_giveHeat 89 = .ok (.iload_n 3, 1) := by decide +kernel
theorem dX6_giveHeat_90 : decode cX6_giveHeat 90 = .ok (.iadd, 1) := by decide +kernel
theorem dX6_giveHeat_91 : decode cX6_giveHeat 91 = .ok (.putfield 50, 3) := by decide +kernel
theorem dX6_giveHeat_94 : decode cX6_giveHeat 94 = .ok (.iload_n 3, 1) := by decide +kernel
theorem dX6_giveHeat_95 : decode cX6_giveHeat 95 = .ok (.ireturn, 1) := by decide +kernel
theorem dX6_work_0 : decode cX6_work 0 = .ok (.iconst 0, 1) := by decide +kernel
theorem dX6_work_1 : decode cX6_work 1 = .ok (.istore_n 2, 1) := by decide +kernel
theorem dX6_work_2 : decode cX6_work 2 = .ok (.iload_n 2, 1) := by decide +kernel
theorem dX6_work_3 : decode cX6_work 3 = .ok (.aload_n 0, 1) := by decide +kernel
theorem dX6_work_4 : decode cX6_work 4 = .ok (.getfield 27, 3) := by decide +kernel
theorem dX6_work_7 : decode cX6_work 7 = .ok (.if_icmp .ge 53, 3) := by decide +kernel
theorem dX6_work_10 : decode cX6_work 10 = .ok (.aload_n 0, 1) := by decide +kernel
theorem dX6_work_11 : decode cX6_work 11 = .ok (.iload_n 2, 1) := by decide +kernel
theorem dX6_work_12 : decode cX6_work 12 = .ok (.invokevirtual 86, 3) := by decide +kernel
theorem dX6_work_15 : decode cX6_work 15 = .ok (.getfield 118, 3) := by decide +kernel
theorem dX6_work_18 : decode cX6_work 18 = .ok (.iconst 1, 1) := by decide +kernel
theorem dX6_work_19 : decode cX6_work 19 = .ok (.if_icmp .ne 35, 3) := by decide +kernel
theorem dX6_work_22 : decode cX6_work 22 = .ok (.aload_n 0, 1) := by decide +kernel
theorem dX6_work_23 : decode cX6_work 23 = .ok (.iload_n 2, 1) := by decide +kernel
theorem dX6_work_24 : decode cX6_work 24 = .ok (.invokevirtual 86, 3) := by decide +kernel
theorem dX6_work_27 : decode cX6_work 27 = .ok (.aload_n 1, 1) := by decide +kernel
theorem dX6_work_28 : decode cX6_work 28 = .ok (.getfield 188, 3) := by decide +kernel
theorem dX6_work_31 : decode cX6_work 31 = .ok (.iload_n 2, 1) := by decide +kernel
theorem dX6_work_32 : decode cX6_work 32 = .ok (.iaload, 1) := by decide +kernel
theorem dX6_work_33 : decode cX6_work 33 = .ok (.invokevirtual 191, 3) := by decide +kernel
theorem dX6_work_36 : decode cX6_work 36 = .ok (.ifCond .eq 18, 3) := by decide +kernel
theorem dX6_work_39 : decode cX6_work 39 = .ok (.aload_n 0, 1) := by decide +kernel
theorem dX6_work_40 : decode cX6_work 40 = .ok (.getfield 17, 3) := by decide +kernel
theorem dX6_work_43 : decode cX6_work 43 = .ok (.iload_n 2, 1) := by decide +kernel
theorem dX6_work_44 : decode cX6_work 44 = .ok (.aaload, 1) := by decide +kernel
theorem dX6_work_45 : decode cX6_work 45 = .ok (.dup, 1) := by decide +kernel
theorem dX6_work_46 : decode cX6_work 46 = .ok (.getfield 195, 3) := by decide +kernel
theorem dX6_work_49 : decode cX6_work 49 = .ok (.iconst 1, 1) := by decide +kernel
theorem dX6_work_50 : decode cX6_work 50 = .ok (.iadd, 1) := by decide +kernel
theorem dX6_work_51 : decode cX6_work 51 = .ok (.putfield 195, 3) := by decide +kernel
theorem dX6_work_54 : decode cX6_work 54 = .ok (.iinc 2 1, 3) := by decide +kernel
theorem dX6_work_57 : decode cX6_work 57 = .ok (.goto (-55), 3) := by decide +kernel
theorem dX6_work_60 : decode cX6_work 60 = .ok (.return_, 1) := by decide +kernel
theorem dX6_shortenLeases_0 : decode cX6_shortenLeases 0 = .ok (.iconst 0, 1) := by decide +kernel
theorem dX6_shortenLeases_1 : decode cX6_shortenLeases 1 = .ok (.istore_n 1, 1) := by decide +kernel
theorem dX6_shortenLeases_2 : decode cX6_shortenLeases 2 = .ok (.iconst 0, 1) := by decide +kernel
theorem dX6_shortenLeases_3 : decode cX6_shortenLeases 3 = .ok (.istore_n 2, 1) := by decide +kernel
theorem dX6_shortenLeases_4 : decode cX6_shortenLeases 4 = .ok (.iload_n 2, 1) := by decide +kernel
theorem dX6_shortenLeases_5 : decode cX6_shortenLeases 5 = .ok (.aload_n 0, 1) := by decide +kernel
theorem dX6_shortenLeases_6 : decode cX6_shortenLeases 6 = .ok (.getfield 31, 3) := by decide +kernel
theorem dX6_shortenLeases_9 : decode cX6_shortenLeases 9 = .ok (.if_icmp .ge 54, 3) := by decide +kernel
theorem dX6_shortenLeases_12 : decode cX6_shortenLeases 12 = .ok (.aload_n 0, 1) := by decide +kernel
theorem dX6_shortenLeases_13 : decode cX6_shortenLeases 13 = .ok (.getfield 23, 3) := by decide +kernel
theorem dX6_shortenLeases_16 : decode cX6_shortenLeases 16 = .ok (.iload_n 2, 1) := by decide +kernel
theorem dX6_shortenLeases_17 : decode cX6_shortenLeases 17 = .ok (.aaload, 1) := by decide +kernel
theorem dX6_shortenLeases_18 : decode cX6_shortenLeases 18 = .ok (.dup, 1) := by decide +kernel
theorem dX6_shortenLeases_19 : decode cX6_shortenLeases 19 = .ok (.getfield 136, 3) := by decide +kernel
theorem dX6_shortenLeases_22 : decode cX6_shortenLeases 22 = .ok (.iconst 1, 1) := by decide +kernel
theorem dX6_shortenLeases_23 : decode cX6_shortenLeases 23 = .ok (.isub, 1) := by decide +kernel
theorem dX6_shortenLeases_24 : decode cX6_shortenLeases 24 = .ok (.putfield 136, 3) := by decide +kernel
theorem dX6_shortenLeases_27 : decode cX6_shortenLeases 27 = .ok (.aload_n 0, 1) := by decide +kernel
theorem dX6_shortenLeases_28 : decode cX6_shortenLeases 28 = .ok (.getfield 23, 3) := by decide +kernel
theorem dX6_shortenLeases_31 : decode cX6_shortenLeases 31 = .ok (.iload_n 2, 1) := by decide +kernel
theorem dX6_shortenLeases_32 : decode cX6_shortenLeases 32 = .ok (.aaload, 1) := by decide +kernel
theorem dX6_shortenLeases_33 : decode cX6_shortenLeases 33 = .ok (.getfield 136, 3) := by decide +kernel
theorem dX6_shortenLeases_36 : decode cX6_shortenLeases 36 = .ok (.ifCond .le 21, 3) := by decide +kernel
theorem dX6_shortenLeases_39 : decode cX6_shortenLeases 39 = .ok (.aload_n 0, 1) := by decide +kernel
theorem dX6_shortenLeases_40 : decode cX6_shortenLeases 40 = .ok (.getfield 23, 3) := by decide +kernel
theorem dX6_shortenLeases_43 : decode cX6_shortenLeases 43 = .ok (.iload_n 1, 1) := by decide +kernel
theorem dX6_shortenLeases_44 : decode cX6_shortenLeases 44 = .ok (.aaload, 1) := by decide +kernel
theorem dX6_shortenLeases_45 : decode cX6_shortenLeases 45 = .ok (.aload_n 0, 1) := by decide +kernel
theorem dX6_shortenLeases_46 : decode cX6_shortenLeases 46 = .ok (.getfield 23, 3) := by decide +kernel
theorem dX6_shortenLeases_49 : decode cX6_shortenLeases 49 = .ok (.iload_n 2, 1) := by decide +kernel
theorem dX6_shortenLeases_50 : decode cX6_shortenLeases 50 = .ok (.aaload, 1) := by decide +kernel
theorem dX6_shortenLeases_51 : decode cX6_shortenLeases 51 = .ok (.invokevirtual 66, 3) := by decide +kernel
theorem dX6_shortenLeases_54 : decode cX6_shortenLeases 54 = .ok (.iinc 1 1, 3) := by decide +kernel
theorem dX6_shortenLeases_57 : decode cX6_shortenLeases 57 = .ok (.iinc 2 1, 3) := by decide +kernel
theorem dX6_shortenLeases_60 : decode cX6_shortenLeases 60 = .ok (.goto (-56), 3) := by decide +kernel
theorem dX6_shortenLeases_63 : decode cX6_shortenLeases 63 = .ok (.aload_n 0, 1) := by decide +kernel
theorem dX6_shortenLeases_64 : decode cX6_shortenLeases 64 = .ok (.iload_n 1, 1) := by decide +kernel
theorem dX6_shortenLeases_65 : decode cX6_shortenLeases 65 = .ok (.putfield 31, 3) := by decide +kernel
theorem dX6_shortenLeases_68 : decode cX6_shortenLeases 68 = .ok (.return_, 1) := by decide +kernel
theorem dX6_washersIn_0 : decode cX6_washersIn 0 = .ok (.iconst 0, 1) := by decide +kernel
theorem dX6_washersIn_1 : decode cX6_washersIn 1 = .ok (.istore_n 2, 1) := by decide +kernel
theorem dX6_washersIn_2 : decode cX6_washersIn 2 = .ok (.iconst 0, 1) := by decide +kernel
theorem dX6_washersIn_3 : decode cX6_washersIn 3 = .ok (.istore_n 3, 1) := by decide +kernel
theorem dX6_washersIn_4 : decode cX6_washersIn 4 = .ok (.iload_n 3, 1) := by decide +kernel
theorem dX6_washersIn_5 : decode cX6_washersIn 5 = .ok (.aload_n 0, 1) := by decide +kernel
theorem dX6_washersIn_6 : decode cX6_washersIn 6 = .ok (.getfield 27, 3) := by decide +kernel
theorem dX6_washersIn_9 : decode cX6_washersIn 9 = .ok (.if_icmp .ge 29, 3) := by decide +kernel
theorem dX6_washersIn_12 : decode cX6_washersIn 12 = .ok (.iload_n 2, 1) := by decide +kernel
theorem dX6_washersIn_13 : decode cX6_washersIn 13 = .ok (.aload_n 0, 1) := by decide +kernel
theorem dX6_washersIn_14 : decode cX6_washersIn 14 = .ok (.iload_n 3, 1) := by decide +kernel
theorem dX6_washersIn_15 : decode cX6_washersIn 15 = .ok (.invokevirtual 86, 3) := by decide +kernel
theorem dX6_washersIn_18 : decode cX6_washersIn 18 = .ok (.getfield 118, 3) := by decide +kernel
theorem dX6_washersIn_21 : decode cX6_washersIn 21 = .ok (.iload_n 1, 1) := by decide +kernel
theorem dX6_washersIn_22 : decode cX6_washersIn 22 = .ok (.if_icmp .ne 7, 3) := by decide +kernel
theorem dX6_washersIn_25 : decode cX6_washersIn 25 = .ok (.iconst 1, 1) := by decide +kernel
theorem dX6_washersIn_26 : decode cX6_washersIn 26 = .ok (.goto 4, 3) := by decide +kernel
theorem dX6_washersIn_29 : decode cX6_washersIn 29 = .ok (.iconst 0, 1) := by decide +kernel
theorem dX6_washersIn_30 : decode cX6_washersIn 30 = .ok (.iadd, 1) := by decide +kernel
theorem dX6_washersIn_31 : decode cX6_washersIn 31 = .ok (.istore_n 2, 1) := by decide +kernel
theorem dX6_washersIn_32 : decode cX6_washersIn 32 = .ok (.iinc 3 1, 3) := by decide +kernel
theorem dX6_washersIn_35 : decode cX6_washersIn 35 = .ok (.goto (-31), 3) := by decide +kernel
theorem dX6_washersIn_38 : decode cX6_washersIn 38 = .ok (.iload_n 2, 1) := by decide +kernel
theorem dX6_washersIn_39 : decode cX6_washersIn 39 = .ok (.ireturn, 1) := by decide +kernel
theorem dX6_doorsIn_0 : decode cX6_doorsIn 0 = .ok (.iconst 0, 1) := by decide +kernel
theorem dX6_doorsIn_1 : decode cX6_doorsIn 1 = .ok (.istore_n 2, 1) := by decide +kernel
theorem dX6_doorsIn_2 : decode cX6_doorsIn 2 = .ok (.iconst 0, 1) := by decide +kernel
theorem dX6_doorsIn_3 : decode cX6_doorsIn 3 = .ok (.istore_n 3, 1) := by decide +kernel
theorem dX6_doorsIn_4 : decode cX6_doorsIn 4 = .ok (.iload_n 3, 1) := by decide +kernel
theorem dX6_doorsIn_5 : decode cX6_doorsIn 5 = .ok (.aload_n 0, 1) := by decide +kernel
theorem dX6_doorsIn_6 : decode cX6_doorsIn 6 = .ok (.getfield 27, 3) := by decide +kernel
theorem dX6_doorsIn_9 : decode cX6_doorsIn 9 = .ok (.if_icmp .ge 29, 3) := by decide +kernel
theorem dX6_doorsIn_12 : decode cX6_doorsIn 12 = .ok (.iload_n 2, 1) := by decide +kernel
theorem dX6_doorsIn_13 : decode cX6_doorsIn 13 = .ok (.aload_n 0, 1) := by decide +kernel
theorem dX6_doorsIn_14 : decode cX6_doorsIn 14 = .ok (.iload_n 3, 1) := by decide +kernel
theorem dX6_doorsIn_15 : decode cX6_doorsIn 15 = .ok (.invokevirtual 86, 3) := by decide +kernel
theorem dX6_doorsIn_18 : decode cX6_doorsIn 18 = .ok (.getfield 95, 3) := by decide +kernel
theorem dX6_doorsIn_21 : decode cX6_doorsIn 21 = .ok (.iload_n 1, 1) := by decide +kernel
theorem dX6_doorsIn_22 : decode cX6_doorsIn 22 = .ok (.if_icmp .ne 7, 3) := by decide +kernel
theorem dX6_doorsIn_25 : decode cX6_doorsIn 25 = .ok (.iconst 1, 1) := by decide +kernel
theorem dX6_doorsIn_26 : decode cX6_doorsIn 26 = .ok (.goto 4, 3) := by decide +kernel
theorem dX6_doorsIn_29 : decode cX6_doorsIn 29 = .ok (.iconst 0, 1) := by decide +kernel
theorem dX6_doorsIn_30 : decode cX6_doorsIn 30 = .ok (.iadd, 1) := by decide +kernel
theorem dX6_doorsIn_31 : decode cX6_doorsIn 31 = .ok (.istore_n 2, 1) := by decide +kernel
theorem dX6_doorsIn_32 : decode cX6_doorsIn 32 = .ok (.iinc 3 1, 3) := by decide +kernel
theorem dX6_doorsIn_35 : decode cX6_doorsIn 35 = .ok (.goto (-31), 3) := by decide +kernel
theorem dX6_doorsIn_38 : decode cX6_doorsIn 38 = .ok (.iload_n 2, 1) := by decide +kernel
theorem dX6_doorsIn_39 : decode cX6_doorsIn 39 = .ok (.ireturn, 1) := by decide +kernel
theorem dX6_sumOf_0 : decode cX6_sumOf 0 = .ok (.iconst 0, 1) := by decide +kernel
theorem dX6_sumOf_1 : decode cX6_sumOf 1 = .ok (.istore_n 2, 1) := by decide +kernel
theorem dX6_sumOf_2 : decode cX6_sumOf 2 = .ok (.iconst 0, 1) := by decide +kernel
theorem dX6_sumOf_3 : decode cX6_sumOf 3 = .ok (.istore_n 3, 1) := by decide +kernel
theorem dX6_sumOf_4 : decode cX6_sumOf 4 = .ok (.iload_n 3, 1) := by decide +kernel
theorem dX6_sumOf_5 : decode cX6_sumOf 5 = .ok (.aload_n 0, 1) := by decide +kernel
theorem dX6_sumOf_6 : decode cX6_sumOf 6 = .ok (.getfield 27, 3) := by decide +kernel
theorem dX6_sumOf_9 : decode cX6_sumOf 9 = .ok (.if_icmp .ge 22, 3) := by decide +kernel
theorem dX6_sumOf_12 : decode cX6_sumOf 12 = .ok (.iload_n 2, 1) := by decide +kernel
theorem dX6_sumOf_13 : decode cX6_sumOf 13 = .ok (.aload_n 0, 1) := by decide +kernel
theorem dX6_sumOf_14 : decode cX6_sumOf 14 = .ok (.getfield 17, 3) := by decide +kernel
theorem dX6_sumOf_17 : decode cX6_sumOf 17 = .ok (.iload_n 3, 1) := by decide +kernel
theorem dX6_sumOf_18 : decode cX6_sumOf 18 = .ok (.aaload, 1) := by decide +kernel
theorem dX6_sumOf_19 : decode cX6_sumOf 19 = .ok (.iload_n 1, 1) := by decide +kernel
theorem dX6_sumOf_20 : decode cX6_sumOf 20 = .ok (.invokevirtual 198, 3) := by decide +kernel
theorem dX6_sumOf_23 : decode cX6_sumOf 23 = .ok (.iadd, 1) := by decide +kernel
theorem dX6_sumOf_24 : decode cX6_sumOf 24 = .ok (.istore_n 2, 1) := by decide +kernel
theorem dX6_sumOf_25 : decode cX6_sumOf 25 = .ok (.iinc 3 1, 3) := by decide +kernel
theorem dX6_sumOf_28 : decode cX6_sumOf 28 = .ok (.goto (-24), 3) := by decide +kernel
theorem dX6_sumOf_31 : decode cX6_sumOf 31 = .ok (.iload_n 2, 1) := by decide +kernel
theorem dX6_sumOf_32 : decode cX6_sumOf 32 = .ok (.ireturn, 1) := by decide +kernel
theorem dX6_tell_0 : decode cX6_tell 0 = .ok (.iload_n 1, 1) := by decide +kernel
theorem dX6_tell_1 : decode cX6_tell 1 = .ok (.tableswitch 150 0 12 #[67, 72, 85, 90, 96, 102, 108, 114, 119, 126, 133, 138, 144], 67) := by decide +kernel
theorem dX6_tell_68 : decode cX6_tell 68 = .ok (.aload_n 0, 1) := by decide +kernel
theorem dX6_tell_69 : decode cX6_tell 69 = .ok (.getfield 34, 3) := by decide +kernel
theorem dX6_tell_72 : decode cX6_tell 72 = .ok (.ireturn, 1) := by decide +kernel
theorem dX6_tell_73 : decode cX6_tell 73 = .ok (.aload_n 0, 1) := by decide +kernel
theorem dX6_tell_74 : decode cX6_tell 74 = .ok (.getfield 40, 3) := by decide +kernel
theorem dX6_tell_77 : decode cX6_tell 77 = .ok (.ifCond .eq 7, 3) := by decide +kernel
theorem dX6_tell_80 : decode cX6_tell 80 = .ok (.iconst 1, 1) := by decide +kernel
theorem dX6_tell_81 : decode cX6_tell 81 = .ok (.goto 4, 3) := by decide +kernel
theorem dX6_tell_84 : decode cX6_tell 84 = .ok (.iconst 0, 1) := by decide +kernel
theorem dX6_tell_85 : decode cX6_tell 85 = .ok (.ireturn, 1) := by decide +kernel
theorem dX6_tell_86 : decode cX6_tell 86 = .ok (.aload_n 0, 1) := by decide +kernel
theorem dX6_tell_87 : decode cX6_tell 87 = .ok (.getfield 27, 3) := by decide +kernel
theorem dX6_tell_90 : decode cX6_tell 90 = .ok (.ireturn, 1) := by decide +kernel
theorem dX6_tell_91 : decode cX6_tell 91 = .ok (.aload_n 0, 1) := by decide +kernel
theorem dX6_tell_92 : decode cX6_tell 92 = .ok (.iconst 1, 1) := by decide +kernel
theorem dX6_tell_93 : decode cX6_tell 93 = .ok (.invokevirtual 201, 3) := by decide +kernel
theorem dX6_tell_96 : decode cX6_tell 96 = .ok (.ireturn, 1) := by decide +kernel
theorem dX6_tell_97 : decode cX6_tell 97 = .ok (.aload_n 0, 1) := by decide +kernel
theorem dX6_tell_98 : decode cX6_tell 98 = .ok (.iconst 2, 1) := by decide +kernel
theorem dX6_tell_99 : decode cX6_tell 99 = .ok (.invokevirtual 201, 3) := by decide +kernel
theorem dX6_tell_102 : decode cX6_tell 102 = .ok (.ireturn, 1) := by decide +kernel
theorem dX6_tell_103 : decode cX6_tell 103 = .ok (.aload_n 0, 1) := by decide +kernel
theorem dX6_tell_104 : decode cX6_tell 104 = .ok (.iconst 2, 1) := by decide +kernel
theorem dX6_tell_105 : decode cX6_tell 105 = .ok (.invokevirtual 204, 3) := by decide +kernel
theorem dX6_tell_108 : decode cX6_tell 108 = .ok (.ireturn, 1) := by decide +kernel
theorem dX6_tell_109 : decode cX6_tell 109 = .ok (.aload_n 0, 1) := by decide +kernel
theorem dX6_tell_110 : decode cX6_tell 110 = .ok (.iconst 0, 1) := by decide +kernel
theorem dX6_tell_111 : decode cX6_tell 111 = .ok (.invokevirtual 204, 3) := by decide +kernel
theorem dX6_tell_114 : decode cX6_tell 114 = .ok (.ireturn, 1) := by decide +kernel
theorem dX6_tell_115 : decode cX6_tell 115 = .ok (.aload_n 0, 1) := by decide +kernel
theorem dX6_tell_116 : decode cX6_tell 116 = .ok (.getfield 31, 3) := by decide +kernel
theorem dX6_tell_119 : decode cX6_tell 119 = .ok (.ireturn, 1) := by decide +kernel
theorem dX6_tell_120 : decode cX6_tell 120 = .ok (.aload_n 0, 1) := by decide +kernel
theorem dX6_tell_121 : decode cX6_tell 121 = .ok (.bipush 6, 2) := by decide +kernel
theorem dX6_tell_123 : decode cX6_tell 123 = .ok (.invokevirtual 207, 3) := by decide +kernel
theorem dX6_tell_126 : decode cX6_tell 126 = .ok (.ireturn, 1) := by decide +kernel
theorem dX6_tell_127 : decode cX6_tell 127 = .ok (.aload_n 0, 1) := by decide +kernel
theorem dX6_tell_128 : decode cX6_tell 128 = .ok (.bipush 7, 2) := by decide +kernel
theorem dX6_tell_130 : decode cX6_tell 130 = .ok (.invokevirtual 207, 3) := by decide +kernel
theorem dX6_tell_133 : decode cX6_tell 133 = .ok (.ireturn, 1) := by decide +kernel
theorem dX6_tell_134 : decode cX6_tell 134 = .ok (.aload_n 0, 1) := by decide +kernel
theorem dX6_tell_135 : decode cX6_tell 135 = .ok (.getfield 37, 3) := by decide +kernel
theorem dX6_tell_138 : decode cX6_tell 138 = .ok (.ireturn, 1) := by decide +kernel
theorem dX6_tell_139 : decode cX6_tell 139 = .ok (.aload_n 0, 1) := by decide +kernel
theorem dX6_tell_140 : decode cX6_tell 140 = .ok (.iconst 5, 1) := by decide +kernel
theorem dX6_tell_141 : decode cX6_tell 141 = .ok (.invokevirtual 207, 3) := by decide +kernel
theorem dX6_tell_144 : decode cX6_tell 144 = .ok (.ireturn, 1) := by decide +kernel
theorem dX6_tell_145 : decode cX6_tell 145 = .ok (.aload_n 0, 1) := by decide +kernel
theorem dX6_tell_146 : decode cX6_tell 146 = .ok (.iconst 1, 1) := by decide +kernel
theorem dX6_tell_147 : decode cX6_tell 147 = .ok (.invokevirtual 207, 3) := by decide +kernel
theorem dX6_tell_150 : decode cX6_tell 150 = .ok (.ireturn, 1) := by decide +kernel
theorem dX6_tell_151 : decode cX6_tell 151 = .ok (.bipush (-2), 2) := by decide +kernel
theorem dX6_tell_153 : decode cX6_tell 153 = .ok (.ireturn, 1) := by decide +kernel
theorem dX7_init_0 : decode cX7_init 0 = .ok (.aload_n 0, 1) := by decide +kernel
theorem dX7_init_1 : decode cX7_init 1 = .ok (.invokespecial 3, 3) := by decide +kernel
theorem dX7_init_4 : decode cX7_init 4 = .ok (.aload_n 0, 1) := by decide +kernel
theorem dX7_init_5 : decode cX7_init 5 = .ok (.iconst 0, 1) := by decide +kernel
theorem dX7_init_6 : decode cX7_init 6 = .ok (.putfield 9, 3) := by decide +kernel
theorem dX7_init_9 : decode cX7_init 9 = .ok (.aload_n 0, 1) := by decide +kernel
theorem dX7_init_10 : decode cX7_init 10 = .ok (.iconst 1, 1) := by decide +kernel
theorem dX7_init_11 : decode cX7_init 11 = .ok (.putfield 15, 3) := by decide +kernel
theorem dX7_init_14 : decode cX7_init 14 = .ok (.aload_n 0, 1) := by decide +kernel
theorem dX7_init_15 : decode cX7_init 15 = .ok (.iconst 0, 1) := by decide +kernel
theorem dX7_init_16 : decode cX7_init 16 = .ok (.putfield 18, 3) := by decide +kernel
theorem dX7_init_19 : decode cX7_init 19 = .ok (.aload_n 0, 1) := by decide +kernel
theorem dX7_init_20 : decode cX7_init 20 = .ok (.iconst 0, 1) := by decide +kernel
theorem dX7_init_21 : decode cX7_init 21 = .ok (.putfield 21, 3) := by decide +kernel
theorem dX7_init_24 : decode cX7_init 24 = .ok (.aload_n 0, 1) := by decide +kernel
theorem dX7_init_25 : decode cX7_init 25 = .ok (.iconst 0, 1) := by decide +kernel
theorem dX7_init_26 : decode cX7_init 26 = .ok (.putfield 24, 3) := by decide +kernel
theorem dX7_init_29 : decode cX7_init 29 = .ok (.aload_n 0, 1) := by decide +kernel
theorem dX7_init_30 : decode cX7_init 30 = .ok (.lconst 0, 1) := by decide +kernel
theorem dX7_init_31 : decode cX7_init 31 = .ok (.putfield 27, 3) := by decide +kernel
theorem dX7_init_34 : decode cX7_init 34 = .ok (.aload_n 0, 1) := by decide +kernel
theorem dX7_init_35 : decode cX7_init 35 = .ok (.iconst 0, 1) := by decide +kernel
theorem dX7_init_36 : decode cX7_init 36 = .ok (.putfield 31, 3) := by decide +kernel
theorem dX7_init_39 : decode cX7_init 39 = .ok (.aload_n 0, 1) := by decide +kernel
theorem dX7_init_40 : decode cX7_init 40 = .ok (.aload_n 1, 1) := by decide +kernel
theorem dX7_init_41 : decode cX7_init 41 = .ok (.putfield 34, 3) := by decide +kernel
theorem dX7_init_44 : decode cX7_init 44 = .ok (.return_, 1) := by decide +kernel
theorem dX7_copyFrom_0 : decode cX7_copyFrom 0 = .ok (.aload_n 0, 1) := by decide +kernel
theorem dX7_copyFrom_1 : decode cX7_copyFrom 1 = .ok (.aload_n 1, 1) := by decide +kernel
theorem dX7_copyFrom_2 : decode cX7_copyFrom 2 = .ok (.getfield 34, 3) := by decide +kernel
theorem dX7_copyFrom_5 : decode cX7_copyFrom 5 = .ok (.putfield 34, 3) := by decide +kernel
theorem dX7_copyFrom_8 : decode cX7_copyFrom 8 = .ok (.aload_n 0, 1) := by decide +kernel
theorem dX7_copyFrom_9 : decode cX7_copyFrom 9 = .ok (.aload_n 1, 1) := by decide +kernel
theorem dX7_copyFrom_10 : decode cX7_copyFrom 10 = .ok (.getfield 9, 3) := by decide +kernel
theorem dX7_copyFrom_13 : decode cX7_copyFrom 13 = .ok (.putfield 9, 3) := by decide +kernel
theorem dX7_copyFrom_16 : decode cX7_copyFrom 16 = .ok (.aload_n 0, 1) := by decide +kernel
theorem dX7_copyFrom_17 : decode cX7_copyFrom 17 = .ok (.aload_n 1, 1) := by decide +kernel
theorem dX7_copyFrom_18 : decode cX7_copyFrom 18 = .ok (.getfield 15, 3) := by decide +kernel
theorem dX7_copyFrom_21 : decode cX7_copyFrom 21 = .ok (.putfield 15, 3) := by decide +kernel
theorem dX7_copyFrom_24 : decode cX7_copyFrom 24 = .ok (.aload_n 0, 1) := by decide +kernel
theorem dX7_copyFrom_25 : decode cX7_copyFrom 25 = .ok (.aload_n 1, 1) := by decide +kernel
theorem dX7_copyFrom_26 : decode cX7_copyFrom 26 = .ok (.getfield 18, 3) := by decide +kernel
theorem dX7_copyFrom_29 : decode cX7_copyFrom 29 = .ok (.putfield 18, 3) := by decide +kernel
theorem dX7_copyFrom_32 : decode cX7_copyFrom 32 = .ok (.aload_n 0, 1) := by decide +kernel
theorem dX7_copyFrom_33 : decode cX7_copyFrom 33 = .ok (.aload_n 1, 1) := by decide +kernel
theorem dX7_copyFrom_34 : decode cX7_copyFrom 34 = .ok (.getfield 21, 3) := by decide +kernel
theorem dX7_copyFrom_37 : decode cX7_copyFrom 37 = .ok (.putfield 21, 3) := by decide +kernel
theorem dX7_copyFrom_40 : decode cX7_copyFrom 40 = .ok (.aload_n 0, 1) := by decide +kernel
