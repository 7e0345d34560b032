theorem dX0_init_0 : decode cX0_init 0 = .ok (.aload_n 0, 1) := by decide +kernel
theorem dX0_init_1 : decode cX0_init 1 = .ok (.invokespecial 3, 3) := by decide +kernel
theorem dX0_init_4 : decode cX0_init 4 = .ok (.aload_n 0, 1) := by decide +kernel
theorem dX0_init_5 : decode cX0_init 5 = .ok (.sipush 200, 3) := by decide +kernel
theorem dX0_init_8 : decode cX0_init 8 = .ok (.newarray .int, 2) := by decide +kernel
theorem dX0_init_10 : decode cX0_init 10 = .ok (.putfield 9, 3) := by decide +kernel
theorem dX0_init_13 : decode cX0_init 13 = .ok (.return_, 1) := by decide +kernel
theorem dX0_add_0 : decode cX0_add 0 = .ok (.aload_n 0, 1) := by decide +kernel
theorem dX0_add_1 : decode cX0_add 1 = .ok (.getfield 15, 3) := by decide +kernel
theorem dX0_add_4 : decode cX0_add 4 = .ok (.iconst 5, 1) := by decide +kernel
theorem dX0_add_5 : decode cX0_add 5 = .ok (.imul, 1) := by decide +kernel
theorem dX0_add_6 : decode cX0_add 6 = .ok (.istore 5, 2) := by decide +kernel
theorem dX0_add_8 : decode cX0_add 8 = .ok (.aload_n 0, 1) := by decide +kernel
theorem dX0_add_9 : decode cX0_add 9 = .ok (.getfield 9, 3) := by decide +kernel
theorem dX0_add_12 : decode cX0_add 12 = .ok (.iload 5, 2) := by decide +kernel
theorem dX0_add_14 : decode cX0_add 14 = .ok (.iload_n 1, 1) := by decide +kernel
theorem dX0_add_15 : decode cX0_add 15 = .ok (.invokestatic 19, 3) := by decide +kernel
theorem dX0_add_18 : decode cX0_add 18 = .ok (.aload_n 0, 1) := by decide +kernel
theorem dX0_add_19 : decode cX0_add 19 = .ok (.getfield 9, 3) := by decide +kernel
theorem dX0_add_22 : decode cX0_add 22 = .ok (.iload 5, 2) := by decide +kernel
theorem dX0_add_24 : decode cX0_add 24 = .ok (.iconst 1, 1) := by decide +kernel
theorem dX0_add_25 : decode cX0_add 25 = .ok (.iadd, 1) := by decide +kernel
theorem dX0_add_26 : decode cX0_add 26 = .ok (.iload_n 2, 1) := by decide +kernel
theorem dX0_add_27 : decode cX0_add 27 = .ok (.invokestatic 19, 3) := by decide +kernel
theorem dX0_add_30 : decode cX0_add 30 = .ok (.aload_n 0, 1) := by decide +kernel
theorem dX0_add_31 : decode cX0_add 31 = .ok (.getfield 9, 3) := by decide +kernel
theorem dX0_add_34 : decode cX0_add 34 = .ok (.iload 5, 2) := by decide +kernel
theorem dX0_add_36 : decode cX0_add 36 = .ok (.iconst 2, 1) := by decide +kernel
theorem dX0_add_37 : decode cX0_add 37 = .ok (.iadd, 1) := by decide +kernel
theorem dX0_add_38 : decode cX0_add 38 = .ok (.iload_n 3, 1) := by decide +kernel
theorem dX0_add_39 : decode cX0_add 39 = .ok (.invokestatic 19, 3) := by decide +kernel
theorem dX0_add_42 : decode cX0_add 42 = .ok (.aload_n 0, 1) := by decide +kernel
theorem dX0_add_43 : decode cX0_add 43 = .ok (.getfield 9, 3) := by decide +kernel
theorem dX0_add_46 : decode cX0_add 46 = .ok (.iload 5, 2) := by decide +kernel
theorem dX0_add_48 : decode cX0_add 48 = .ok (.iconst 3, 1) := by decide +kernel
theorem dX0_add_49 : decode cX0_add 49 = .ok (.iadd, 1) := by decide +kernel
theorem dX0_add_50 : decode cX0_add 50 = .ok (.iload 4, 2) := by decide +kernel
theorem dX0_add_52 : decode cX0_add 52 = .ok (.invokestatic 19, 3) := by decide +kernel
theorem dX0_add_55 : decode cX0_add 55 = .ok (.aload_n 0, 1) := by decide +kernel
theorem dX0_add_56 : decode cX0_add 56 = .ok (.getfield 9, 3) := by decide +kernel
theorem dX0_add_59 : decode cX0_add 59 = .ok (.iload 5, 2) := by decide +kernel
theorem dX0_add_61 : decode cX0_add 61 = .ok (.iconst 4, 1) := by decide +kernel
theorem dX0_add_62 : decode cX0_add 62 = .ok (.iadd, 1) := by decide +kernel
theorem dX0_add_63 : decode cX0_add 63 = .ok (.iconst 1, 1) := by decide +kernel
theorem dX0_add_64 : decode cX0_add 64 = .ok (.invokestatic 19, 3) := by decide +kernel
theorem dX0_add_67 : decode cX0_add 67 = .ok (.aload_n 0, 1) := by decide +kernel
theorem dX0_add_68 : decode cX0_add 68 = .ok (.dup, 1) := by decide +kernel
theorem dX0_add_69 : decode cX0_add 69 = .ok (.getfield 15, 3) := by decide +kernel
theorem dX0_add_72 : decode cX0_add 72 = .ok (.dup_x1, 1) := by decide +kernel
theorem dX0_add_73 : decode cX0_add 73 = .ok (.iconst 1, 1) := by decide +kernel
theorem dX0_add_74 : decode cX0_add 74 = .ok (.iadd, 1) := by decide +kernel
theorem dX0_add_75 : decode cX0_add 75 = .ok (.putfield 15, 3) := by decide +kernel
theorem dX0_add_78 : decode cX0_add 78 = .ok (.ireturn, 1) := by decide +kernel
theorem dX0_takeBack_0 : decode cX0_takeBack 0 = .ok (.aload_n 0, 1) := by decide +kernel
theorem dX0_takeBack_1 : decode cX0_takeBack 1 = .ok (.getfield 9, 3) := by decide +kernel
theorem dX0_takeBack_4 : decode cX0_takeBack 4 = .ok (.iload_n 1, 1) := by decide +kernel
theorem dX0_takeBack_5 : decode cX0_takeBack 5 = .ok (.iconst 5, 1) := by decide +kernel
theorem dX0_takeBack_6 : decode cX0_takeBack 6 = .ok (.imul, 1) := by decide +kernel
theorem dX0_takeBack_7 : decode cX0_takeBack 7 = .ok (.iconst 4, 1) := by decide +kernel
theorem dX0_takeBack_8 : decode cX0_takeBack 8 = .ok (.iadd, 1) := by decide +kernel
theorem dX0_takeBack_9 : decode cX0_takeBack 9 = .ok (.iconst 0, 1) := by decide +kernel
theorem dX0_takeBack_10 : decode cX0_takeBack 10 = .ok (.invokestatic 19, 3) := by decide +kernel
theorem dX0_takeBack_13 : decode cX0_takeBack 13 = .ok (.return_, 1) := by decide +kernel
theorem dX0_knows_0 : decode cX0_knows 0 = .ok (.iload_n 1, 1) := by decide +kernel
theorem dX0_knows_1 : decode cX0_knows 1 = .ok (.aload_n 0, 1) := by decide +kernel
theorem dX0_knows_2 : decode cX0_knows 2 = .ok (.getfield 15, 3) := by decide +kernel
theorem dX0_knows_5 : decode cX0_knows 5 = .ok (.invokestatic 23, 3) := by decide +kernel
theorem dX0_knows_8 : decode cX0_knows 8 = .ok (.ireturn, 1) := by decide +kernel
theorem dX0_part_0 : decode cX0_part 0 = .ok (.aload_n 0, 1) := by decide +kernel
theorem dX0_part_1 : decode cX0_part 1 = .ok (.getfield 9, 3) := by decide +kernel
theorem dX0_part_4 : decode cX0_part 4 = .ok (.iload_n 1, 1) := by decide +kernel
theorem dX0_part_5 : decode cX0_part 5 = .ok (.iconst 5, 1) := by decide +kernel
theorem dX0_part_6 : decode cX0_part 6 = .ok (.imul, 1) := by decide +kernel
theorem dX0_part_7 : decode cX0_part 7 = .ok (.iload_n 2, 1) := by decide +kernel
theorem dX0_part_8 : decode cX0_part 8 = .ok (.iadd, 1) := by decide +kernel
theorem dX0_part_9 : decode cX0_part 9 = .ok (.invokestatic 27, 3) := by decide +kernel
theorem dX0_part_12 : decode cX0_part 12 = .ok (.ireturn, 1) := by decide +kernel
theorem dX0_holding_0 : decode cX0_holding 0 = .ok (.aload_n 0, 1) := by decide +kernel
theorem dX0_holding_1 : decode cX0_holding 1 = .ok (.iload_n 1, 1) := by decide +kernel
theorem dX0_holding_2 : decode cX0_holding 2 = .ok (.invokevirtual 31, 3) := by decide +kernel
theorem dX0_holding_5 : decode cX0_holding 5 = .ok (.ifCond .eq 17, 3) := by decide +kernel
theorem dX0_holding_8 : decode cX0_holding 8 = .ok (.aload_n 0, 1) := by decide +kernel
theorem dX0_holding_9 : decode cX0_holding 9 = .ok (.iload_n 1, 1) := by decide +kernel
theorem dX0_holding_10 : decode cX0_holding 10 = .ok (.iconst 4, 1) := by decide +kernel
theorem dX0_holding_11 : decode cX0_holding 11 = .ok (.invokevirtual 35, 3) := by decide +kernel
theorem dX0_holding_14 : decode cX0_holding 14 = .ok (.iconst 1, 1) := by decide +kernel
theorem dX0_holding_15 : decode cX0_holding 15 = .ok (.if_icmp .ne 7, 3) := by decide +kernel
theorem dX0_holding_18 : decode cX0_holding 18 = .ok (.iconst 1, 1) := by decide +kernel
theorem dX0_holding_19 : decode cX0_holding 19 = .ok (.goto 4, 3) := by decide +kernel
theorem dX0_holding_22 : decode cX0_holding 22 = .ok (.iconst 0, 1) := by decide +kernel
theorem dX0_holding_23 : decode cX0_holding 23 = .ok (.ireturn, 1) := by decide +kernel
theorem dX0_holdingOf_0 : decode cX0_holdingOf 0 = .ok (.aload_n 0, 1) := by decide +kernel
theorem dX0_holdingOf_1 : decode cX0_holdingOf 1 = .ok (.iload_n 1, 1) := by decide +kernel
theorem dX0_holdingOf_2 : decode cX0_holdingOf 2 = .ok (.iconst 4, 1) := by decide +kernel
theorem dX0_holdingOf_3 : decode cX0_holdingOf 3 = .ok (.invokevirtual 35, 3) := by decide +kernel
theorem dX0_holdingOf_6 : decode cX0_holdingOf 6 = .ok (.iconst 1, 1) := by decide +kernel
theorem dX0_holdingOf_7 : decode cX0_holdingOf 7 = .ok (.if_icmp .ne 17, 3) := by decide +kernel
theorem dX0_holdingOf_10 : decode cX0_holdingOf 10 = .ok (.aload_n 0, 1) := by decide +kernel
theorem dX0_holdingOf_11 : decode cX0_holdingOf 11 = .ok (.iload_n 1, 1) := by decide +kernel
theorem dX0_holdingOf_12 : decode cX0_holdingOf 12 = .ok (.iconst 0, 1) := by decide +kernel
theorem dX0_holdingOf_13 : decode cX0_holdingOf 13 = .ok (.invokevirtual 35, 3) := by decide +kernel
theorem dX0_holdingOf_16 : decode cX0_holdingOf 16 = .ok (.iload_n 2, 1) := by decide +kernel
theorem dX0_holdingOf_17 : decode cX0_holdingOf 17 = .ok (.if_icmp .ne 7, 3) := by decide +kernel
theorem dX0_holdingOf_20 : decode cX0_holdingOf 20 = .ok (.iconst 1, 1) := by decide +kernel
theorem dX0_holdingOf_21 : decode cX0_holdingOf 21 = .ok (.goto 4, 3) := by decide +kernel
theorem dX0_holdingOf_24 : decode cX0_holdingOf 24 = .ok (.iconst 0, 1) := by decide +kernel
theorem dX0_holdingOf_25 : decode cX0_holdingOf 25 = .ok (.ireturn, 1) := by decide +kernel
theorem dX0_holdingCount_0 : decode cX0_holdingCount 0 = .ok (.iconst 0, 1) := by decide +kernel
theorem dX0_holdingCount_1 : decode cX0_holdingCount 1 = .ok (.istore_n 1, 1) := by decide +kernel
theorem dX0_holdingCount_2 : decode cX0_holdingCount 2 = .ok (.iconst 0, 1) := by decide +kernel
theorem dX0_holdingCount_3 : decode cX0_holdingCount 3 = .ok (.istore_n 2, 1) := by decide +kernel
theorem dX0_holdingCount_4 : decode cX0_holdingCount 4 = .ok (.iload_n 2, 1) := by decide +kernel
theorem dX0_holdingCount_5 : decode cX0_holdingCount 5 = .ok (.aload_n 0, 1) := by decide +kernel
theorem dX0_holdingCount_6 : decode cX0_holdingCount 6 = .ok (.getfield 15, 3) := by decide +kernel
theorem dX0_holdingCount_9 : decode cX0_holdingCount 9 = .ok (.if_icmp .ge 20, 3) := by decide +kernel
theorem dX0_holdingCount_12 : decode cX0_holdingCount 12 = .ok (.iload_n 1, 1) := by decide +kernel
theorem dX0_holdingCount_13 : decode cX0_holdingCount 13 = .ok (.aload_n 0, 1) := by decide +kernel
theorem dX0_holdingCount_14 : decode cX0_holdingCount 14 = .ok (.iload_n 2, 1) := by decide +kernel
theorem dX0_holdingCount_15 : decode cX0_holdingCount 15 = .ok (.invokevirtual 39, 3) := by decide +kernel
theorem dX0_holdingCount_18 : decode cX0_holdingCount 18 = .ok (.invokestatic 42, 3) := by decide +kernel
theorem dX0_holdingCount_21 : decode cX0_holdingCount 21 = .ok (.iadd, 1) := by decide +kernel
theorem dX0_holdingCount_22 : decode cX0_holdingCount 22 = .ok (.istore_n 1, 1) := by decide +kernel
theorem dX0_holdingCount_23 : decode cX0_holdingCount 23 = .ok (.iinc 2 1, 3) := by decide +kernel
theorem dX0_holdingCount_26 : decode cX0_holdingCount 26 = .ok (.goto (-22), 3) := by decide +kernel
theorem dX0_holdingCount_29 : decode cX0_holdingCount 29 = .ok (.iload_n 1, 1) := by decide +kernel
theorem dX0_holdingCount_30 : decode cX0_holdingCount 30 = .ok (.ireturn, 1) := by decide +kernel
theorem dX1_init_0 : decode cX1_init 0 = .ok (.aload_n 0, 1) := by decide +kernel
theorem dX1_init_1 : decode cX1_init 1 = .ok (.invokespecial 3, 3) := by decide +kernel
theorem dX1_init_4 : decode cX1_init 4 = .ok (.aload_n 0, 1) := by decide +kernel
theorem dX1_init_5 : decode cX1_init 5 = .ok (.sipush 2000, 3) := by decide +kernel
theorem dX1_init_8 : decode cX1_init 8 = .ok (.newarray .int, 2) := by decide +kernel
theorem dX1_init_10 : decode cX1_init 10 = .ok (.putfield 9, 3) := by decide +kernel
theorem dX1_init_13 : decode cX1_init 13 = .ok (.aload_n 0, 1) := by decide +kernel
theorem dX1_init_14 : decode cX1_init 14 = .ok (.sipush 2000, 3) := by decide +kernel
theorem dX1_init_17 : decode cX1_init 17 = .ok (.newarray .int, 2) := by decide +kernel
theorem dX1_init_19 : decode cX1_init 19 = .ok (.putfield 15, 3) := by decide +kernel
theorem dX1_init_22 : decode cX1_init 22 = .ok (.aload_n 0, 1) := by decide +kernel
theorem dX1_init_23 : decode cX1_init 23 = .ok (.sipush 2000, 3) := by decide +kernel
theorem dX1_init_26 : decode cX1_init 26 = .ok (.newarray .int, 2) := by decide +kernel
theorem dX1_init_28 : decode cX1_init 28 = .ok (.putfield 18, 3) := by decide +kernel
theorem dX1_init_31 : decode cX1_init 31 = .ok (.aload_n 0, 1) := by decide +kernel
theorem dX1_init_32 : decode cX1_init 32 = .ok (.sipush 2000, 3) := by decide +kernel
theorem dX1_init_35 : decode cX1_init 35 = .ok (.newarray .long, 2) := by decide +kernel
theorem dX1_init_37 : decode cX1_init 37 = .ok (.putfield 21, 3) := by decide +kernel
theorem dX1_init_40 : decode cX1_init 40 = .ok (.aload_n 0, 1) := by decide +kernel
theorem dX1_init_41 : decode cX1_init 41 = .ok (.sipush 2000, 3) := by decide +kernel
theorem dX1_init_44 : decode cX1_init 44 = .ok (.newarray .int, 2) := by decide +kernel
theorem dX1_init_46 : decode cX1_init 46 = .ok (.putfield 25, 3) := by decide +kernel
theorem dX1_init_49 : decode cX1_init 49 = .ok (.return_, 1) := by decide +kernel
theorem dX1_clear_0 : decode cX1_clear 0 = .ok (.aload_n 0, 1) := by decide +kernel
theorem dX1_clear_1 : decode cX1_clear 1 = .ok (.getfield 9, 3) := by decide +kernel
theorem dX1_clear_4 : decode cX1_clear 4 = .ok (.iconst (-1), 1) := by decide +kernel
theorem dX1_clear_5 : decode cX1_clear 5 = .ok (.invokestatic 28, 3) := by decide +kernel
theorem dX1_clear_8 : decode cX1_clear 8 = .ok (.aload_n 0, 1) := by decide +kernel
theorem dX1_clear_9 : decode cX1_clear 9 = .ok (.iconst 0, 1) := by decide +kernel
theorem dX1_clear_10 : decode cX1_clear 10 = .ok (.putfield 32, 3) := by decide +kernel
theorem dX1_clear_13 : decode cX1_clear 13 = .ok (.aload_n 0, 1) := by decide +kernel
theorem dX1_clear_14 : decode cX1_clear 14 = .ok (.iconst 0, 1) := by decide +kernel
theorem dX1_clear_15 : decode cX1_clear 15 = .ok (.putfield 36, 3) := by decide +kernel
theorem dX1_clear_18 : decode cX1_clear 18 = .ok (.return_, 1) := by decide +kernel
theorem dX1_add_0 : decode cX1_add 0 = .ok (.aload_n 0, 1) := by decide +kernel
theorem dX1_add_1 : decode cX1_add 1 = .ok (.getfield 9, 3) := by decide +kernel
theorem dX1_add_4 : decode cX1_add 4 = .ok (.iload_n 1, 1) := by decide +kernel
theorem dX1_add_5 : decode cX1_add 5 = .ok (.aload_n 0, 1) := by decide +kernel
theorem dX1_add_6 : decode cX1_add 6 = .ok (.getfield 32, 3) := by decide +kernel
theorem dX1_add_9 : decode cX1_add 9 = .ok (.invokestatic 39, 3) := by decide +kernel
theorem dX1_add_12 : decode cX1_add 12 = .ok (.aload_n 0, 1) := by decide +kernel
theorem dX1_add_13 : decode cX1_add 13 = .ok (.getfield 15, 3) := by decide +kernel
theorem dX1_add_16 : decode cX1_add 16 = .ok (.aload_n 0, 1) := by decide +kernel
theorem dX1_add_17 : decode cX1_add 17 = .ok (.getfield 32, 3) := by decide +kernel
theorem dX1_add_20 : decode cX1_add 20 = .ok (.iload_n 1, 1) := by decide +kernel
theorem dX1_add_21 : decode cX1_add 21 = .ok (.invokestatic 39, 3) := by decide +kernel
theorem dX1_add_24 : decode cX1_add 24 = .ok (.aload_n 0, 1) := by decide +kernel
theorem dX1_add_25 : decode cX1_add 25 = .ok (.getfield 18, 3) := by decide +kernel
theorem dX1_add_28 : decode cX1_add 28 = .ok (.aload_n 0, 1) := by decide +kernel
theorem dX1_add_29 : decode cX1_add 29 = .ok (.getfield 32, 3) := by decide +kernel
theorem dX1_add_32 : decode cX1_add 32 = .ok (.iload_n 2, 1) := by decide +kernel
theorem dX1_add_33 : decode cX1_add 33 = .ok (.invokestatic 39, 3) := by decide +kernel
theorem dX1_add_36 : decode cX1_add 36 = .ok (.aload_n 0, 1) := by decide +kernel
theorem dX1_add_37 : decode cX1_add 37 = .ok (.getfield 21, 3) := by decide +kernel
theorem dX1_add_40 : decode cX1_add 40 = .ok (.aload_n 0, 1) := by decide +kernel
theorem dX1_add_41 : decode cX1_add 41 = .ok (.getfield 32, 3) := by decide +kernel
theorem dX1_add_44 : decode cX1_add 44 = .ok (.lload_n 3, 1) := by decide +kernel
theorem dX1_add_45 : decode cX1_add 45 = .ok (.invokestatic 43, 3) := by decide +kernel
theorem dX1_add_48 : decode cX1_add 48 = .ok (.aload_n 0, 1) := by decide +kernel
theorem dX1_add_49 : decode cX1_add 49 = .ok (.dup, 1) := by decide +kernel
theorem dX1_add_50 : decode cX1_add 50 = .ok (.getfield 32, 3) := by decide +kernel
theorem dX1_add_53 : decode cX1_add 53 = .ok (.iconst 1, 1) := by decide +kernel
theorem dX1_add_54 : decode cX1_add 54 = .ok (.iadd, 1) := by decide +kernel
theorem dX1_add_55 : decode cX1_add 55 = .ok (.putfield 32, 3) := by decide +kernel
theorem dX1_add_58 : decode cX1_add 58 = .ok (.aload_n 0, 1) := by decide +kernel
theorem dX1_add_59 : decode cX1_add 59 = .ok (.iload_n 2, 1) := by decide +kernel
theorem dX1_add_60 : decode cX1_add 60 = .ok (.putfield 36, 3) := by decide +kernel
theorem dX1_add_63 : decode cX1_add 63 = .ok (.return_, 1) := by decide +kernel
theorem dX1_knows_0 : decode cX1_knows 0 = .ok (.iload_n 1, 1) := by decide +kernel
theorem dX1_knows_1 : decode cX1_knows 1 = .ok (.aload_n 0, 1) := by decide +kernel
theorem dX1_knows_2 : decode cX1_knows 2 = .ok (.getfield 32, 3) := by decide +kernel
theorem dX1_knows_5 : decode cX1_knows 5 = .ok (.invokestatic 47, 3) := by decide +kernel
theorem dX1_knows_8 : decode cX1_knows 8 = .ok (.ireturn, 1) := by decide +kernel
theorem dX1_placeOf_0 : decode cX1_placeOf 0 = .ok (.aload_n 0, 1) := by decide +kernel
theorem dX1_placeOf_1 : decode cX1_placeOf 1 = .ok (.getfield 15, 3) := by decide +kernel
theorem dX1_placeOf_4 : decode cX1_placeOf 4 = .ok (.iload_n 1, 1) := by decide +kernel
theorem dX1_placeOf_5 : decode cX1_placeOf 5 = .ok (.invokestatic 51, 3) := by decide +kernel
theorem dX1_placeOf_8 : decode cX1_placeOf 8 = .ok (.ireturn, 1) := by decide +kernel
theorem dX1_numberOfIs_0 : decode cX1_numberOfIs 0 = .ok (.aload_n 0, 1) := by decide +kernel
theorem dX1_numberOfIs_1 : decode cX1_numberOfIs 1 = .ok (.getfield 9, 3) := by decide +kernel
theorem dX1_numberOfIs_4 : decode cX1_numberOfIs 4 = .ok (.iload_n 1, 1) := by decide +kernel
theorem dX1_numberOfIs_5 : decode cX1_numberOfIs 5 = .ok (.iload_n 2, 1) := by decide +kernel
theorem dX1_numberOfIs_6 : decode cX1_numberOfIs 6 = .ok (.invokestatic 55, 3) := by decide +kernel
theorem dX1_numberOfIs_9 : decode cX1_numberOfIs 9 = .ok (.invokestatic 51, 3) := by decide +kernel
theorem dX1_numberOfIs_12 : decode cX1_numberOfIs 12 = .ok (.ireturn, 1) := by decide +kernel
theorem dX1_numberOfTo_0 : decode cX1_numberOfTo 0 = .ok (.aload_n 0, 1) := by decide +kernel
theorem dX1_numberOfTo_1 : decode cX1_numberOfTo 1 = .ok (.getfield 9, 3) := by decide +kernel
theorem dX1_numberOfTo_4 : decode cX1_numberOfTo 4 = .ok (.iload_n 1, 1) := by decide +kernel
theorem dX1_numberOfTo_5 : decode cX1_numberOfTo 5 = .ok (.iload_n 2, 1) := by decide +kernel
theorem dX1_numberOfTo_6 : decode cX1_numberOfTo 6 = .ok (.iload_n 3, 1) := by decide +kernel
theorem dX1_numberOfTo_7 : decode cX1_numberOfTo 7 = .ok (.invokestatic 59, 3) := by decide +kernel
theorem dX1_numberOfTo_10 : decode cX1_numberOfTo 10 = .ok (.invokestatic 51, 3) := by decide +kernel
theorem dX1_numberOfTo_13 : decode cX1_numberOfTo 13 = .ok (.ireturn, 1) := by decide +kernel
theorem dX1_saysAt_0 : decode cX1_saysAt 0 = .ok (.aload_n 0, 1) := by decide +kernel
theorem dX1_saysAt_1 : decode cX1_saysAt 1 = .ok (.getfield 9, 3) := by decide +kernel
theorem dX1_saysAt_4 : decode cX1_saysAt 4 = .ok (.iload_n 1, 1) := by decide +kernel
theorem dX1_saysAt_5 : decode cX1_saysAt 5 = .ok (.invokestatic 51, 3) := by decide +kernel
theorem dX1_saysAt_8 : decode cX1_saysAt 8 = .ok (.iconst (-1), 1) := by decide +kernel
theorem dX1_saysAt_9 : decode cX1_saysAt 9 = .ok (.if_icmp .eq 7, 3) := by decide +kernel
theorem dX1_saysAt_12 : decode cX1_saysAt 12 = .ok (.iconst 1, 1) := by decide +kernel
theorem dX1_saysAt_13 : decode cX1_saysAt 13 = .ok (.goto 4, 3) := by decide +kernel
theorem dX1_saysAt_16 : decode cX1_saysAt 16 = .ok (.iconst 0, 1) := by decide +kernel
theorem dX1_saysAt_17 : decode cX1_saysAt 17 = .ok (.ireturn, 1) := by decide +kernel
theorem dX1_saysIs_0 : decode cX1_saysIs 0 = .ok (.aload_n 0, 1) := by decide +kernel
theorem dX1_saysIs_1 : decode cX1_saysIs 1 = .ok (.getfield 9, 3) := by decide +kernel
theorem dX1_saysIs_4 : decode cX1_saysIs 4 = .ok (.iload_n 1, 1) := by decide +kernel
theorem dX1_saysIs_5 : decode cX1_saysIs 5 = .ok (.iload_n 2, 1) := by decide +kernel
theorem dX1_saysIs_6 : decode cX1_saysIs 6 = .ok (.invokestatic 55, 3) := by decide +kernel
theorem dX1_saysIs_9 : decode cX1_saysIs 9 = .ok (.invokestatic 51, 3) := by decide +kernel
theorem dX1_saysIs_12 : decode cX1_saysIs 12 = .ok (.iconst (-1), 1) := by decide +kernel
theorem dX1_saysIs_13 : decode cX1_saysIs 13 = .ok (.if_icmp .eq 7, 3) := by decide +kernel
theorem dX1_saysIs_16 : decode cX1_saysIs 16 = .ok (.iconst 1, 1) := by decide +kernel
theorem dX1_saysIs_17 : decode cX1_saysIs 17 = .ok (.goto 4, 3) := by decide +kernel
theorem dX1_saysIs_20 : decode cX1_saysIs 20 = .ok (.iconst 0, 1) := by decide +kernel
theorem dX1_saysIs_21 : decode cX1_saysIs 21 = .ok (.ireturn, 1) := by decide +kernel
theorem dX1_saysTo_0 : decode cX1_saysTo 0 = .ok (.aload_n 0, 1) := by decide +kernel
theorem dX1_saysTo_1 : decode cX1_saysTo 1 = .ok (.getfield 9, 3) := by decide +kernel
theorem dX1_saysTo_4 : decode cX1_saysTo 4 = .ok (.iload_n 1, 1) := by decide +kernel
theorem dX1_saysTo_5 : decode cX1_saysTo 5 = .ok (.iload_n 2, 1) := by decide +kernel
theorem dX1_saysTo_6 : decode cX1_saysTo 6 = .ok (.iload_n 3, 1) := by decide +kernel
theorem dX1_saysTo_7 : decode cX1_saysTo 7 = .ok (.invokestatic 59, 3) := by decide +kernel
theorem dX1_saysTo_10 : decode cX1_saysTo 10 = .ok (.invokestatic 51, 3) := by decide +kernel
theorem dX1_saysTo_13 : decode cX1_saysTo 13 = .ok (.iconst (-1), 1) := by decide +kernel
theorem dX1_saysTo_14 : decode cX1_saysTo 14 = .ok (.if_icmp .eq 7, 3) := by decide +kernel
theorem dX1_saysTo_17 : decode cX1_saysTo 17 = .ok (.iconst 1, 1) := by decide +kernel
theorem dX1_saysTo_18 : decode cX1_saysTo 18 = .ok (.goto 4, 3) := by decide +kernel
theorem dX1_saysTo_21 : decode cX1_saysTo 21 = .ok (.iconst 0, 1) := by decide +kernel
theorem dX1_saysTo_22 : decode cX1_saysTo 22 = .ok (.ireturn, 1) := by decide +kernel
theorem dX1_firstPremise_0 : decode cX1_firstPremise 0 = .ok (.aload_n 0, 1) := by decide +kernel
theorem dX1_firstPremise_1 : decode cX1_firstPremise 1 = .ok (.getfield 21, 3) := by decide +kernel
theorem dX1_firstPremise_4 : decode cX1_firstPremise 4 = .ok (.iload_n 1, 1) := by decide +kernel
theorem dX1_firstPremise_5 : decode cX1_firstPremise 5 = .ok (.invokestatic 63, 3) := by decide +kernel
theorem dX1_firstPremise_8 : decode cX1_firstPremise 8 = .ok (.bipush 17, 2) := by decide +kernel
theorem dX1_firstPremise_10 : decode cX1_firstPremise 10 = .ok (.bipush 11, 2) := by decide +kernel
theorem dX1_firstPremise_12 : decode cX1_firstPremise 12 = .ok (.invokestatic 67, 3) := by decide +kernel
theorem dX1_firstPremise_15 : decode cX1_firstPremise 15 = .ok (.iconst 1, 1) := by decide +kernel
theorem dX1_firstPremise_16 : decode cX1_firstPremise 16 = .ok (.isub, 1) := by decide +kernel
theorem dX1_firstPremise_17 : decode cX1_firstPremise 17 = .ok (.ireturn, 1) := by decide +kernel
theorem dX1_secondPremise_0 : decode cX1_secondPremise 0 = .ok (.aload_n 0, 1) := by decide +kernel
theorem dX1_secondPremise_1 : decode cX1_secondPremise 1 = .ok (.getfield 21, 3) := by decide +kernel
theorem dX1_secondPremise_4 : decode cX1_secondPremise 4 = .ok (.iload_n 1, 1) := by decide +kernel
theorem dX1_secondPremise_5 : decode cX1_secondPremise 5 = .ok (.invokestatic 63, 3) := by decide +kernel
theorem dX1_secondPremise_8 : decode cX1_secondPremise 8 = .ok (.bipush 6, 2) := by decide +kernel
theorem dX1_secondPremise_10 : decode cX1_secondPremise 10 = .ok (.bipush 11, 2) := by decide +kernel
theorem dX1_secondPremise_12 : decode cX1_secondPremise 12 = .ok (.invokestatic 67, 3) := by decide +kernel
theorem dX1_secondPremise_15 : decode cX1_secondPremise 15 = .ok (.iconst 1, 1) := by decide +kernel
theorem dX1_secondPremise_16 : decode cX1_secondPremise 16 = .ok (.isub, 1) := by decide +kernel
theorem dX1_secondPremise_17 : decode cX1_secondPremise 17 = .ok (.ireturn, 1) := by decide +kernel
theorem dX1_part_0 : decode cX1_part 0 = .ok (.iload_n 2, 1) := by decide +kernel
theorem dX1_part_1 : decode cX1_part 1 = .ok (.tableswitch 129 0 7 #[47, 68, 77, 86, 95, 104, 117, 123], 47) := by decide +kernel
theorem dX1_part_48 : decode cX1_part 48 = .ok (.aload_n 0, 1) := by decide +kernel
theorem dX1_part_49 : decode cX1_part 49 = .ok (.iload_n 1, 1) := by decide +kernel
theorem dX1_part_50 : decode cX1_part 50 = .ok (.invokevirtual 71, 3) := by decide +kernel
theorem dX1_part_53 : decode cX1_part 53 = .ok (.invokestatic 75, 3) := by decide +kernel
theorem dX1_part_56 : decode cX1_part 56 = .ok (.iconst (-1), 1) := by decide +kernel
theorem dX1_part_57 : decode cX1_part 57 = .ok (.if_icmp .eq 7, 3) := by decide +kernel
theorem dX1_part_60 : decode cX1_part 60 = .ok (.iconst 1, 1) := by decide +kernel
theorem dX1_part_61 : decode cX1_part 61 = .ok (.goto 4, 3) := by decide +kernel
theorem dX1_part_64 : decode cX1_part 64 = .ok (.iconst 0, 1) := by decide +kernel
theorem dX1_part_65 : decode cX1_part 65 = .ok (.invokestatic 78, 3) := by decide +kernel
theorem dX1_part_68 : decode cX1_part 68 = .ok (.ireturn, 1) := by decide +kernel
theorem dX1_part_69 : decode cX1_part 69 = .ok (.aload_n 0, 1) := by decide +kernel
theorem dX1_part_70 : decode cX1_part 70 = .ok (.iload_n 1, 1) := by decide +kernel
theorem dX1_part_71 : decode cX1_part 71 = .ok (.invokevirtual 71, 3) := by decide +kernel
theorem dX1_part_74 : decode cX1_part 74 = .ok (.invokestatic 82, 3) := by decide +kernel
theorem dX1_part_77 : decode cX1_part 77 = .ok (.ireturn, 1) := by decide +kernel
theorem dX1_part_78 : decode cX1_part 78 = .ok (.aload_n 0, 1) := by decide +kernel
theorem dX1_part_79 : decode cX1_part 79 = .ok (.iload_n 1, 1) := by decide +kernel
theorem dX1_part_80 : decode cX1_part 80 = .ok (.invokevirtual 71, 3) := by decide +kernel
theorem dX1_part_83 : decode cX1_part 83 = .ok (.invokestatic 85, 3) := by decide +kernel
theorem dX1_part_86 : decode cX1_part 86 = .ok (.ireturn, 1) := by decide +kernel
theorem dX1_part_87 : decode cX1_part 87 = .ok (.aload_n 0, 1) := by decide +kernel
theorem dX1_part_88 : decode cX1_part 88 = .ok (.iload_n 1, 1) := by decide +kernel
theorem dX1_part_89 : decode cX1_part 89 = .ok (.invokevirtual 71, 3) := by decide +kernel
theorem dX1_part_92 : decode cX1_part 92 = .ok (.invokestatic 75, 3) := by decide +kernel
theorem dX1_part_95 : decode cX1_part 95 = .ok (.ireturn, 1) := by decide +kernel
theorem dX1_part_96 : decode cX1_part 96 = .ok (.aload_n 0, 1) := by decide +kernel
theorem dX1_part_97 : decode cX1_part 97 = .ok (.getfield 18, 3) := by decide +kernel
theorem dX1_part_100 : decode cX1_part 100 = .ok (.iload_n 1, 1) := by decide +kernel
theorem dX1_part_101 : decode cX1_part 101 = .ok (.invokestatic 51, 3) := by decide +kernel
theorem dX1_part_104 : decode cX1_part 104 = .ok (.ireturn, 1) := by decide +kernel
theorem dX1_part_105 : decode cX1_part 105 = .ok (.aload_n 0, 1) := by decide +kernel
theorem dX1_part_106 : decode cX1_part 106 = .ok (.getfield 21, 3) := by decide +kernel
theorem dX1_part_109 : decode cX1_part 109 = .ok (.iload_n 1, 1) := by decide +kernel
theorem dX1_part_110 : decode cX1_part 110 = .ok (.invokestatic 63, 3) := by decide +kernel
theorem dX1_part_113 : decode cX1_part 113 = .ok (.bipush 28, 2) := by decide +kernel
theorem dX1_part_115 : decode cX1_part 115 = .ok (.lshr, 1) := by decide +kernel
theorem dX1_part_116 : decode cX1_part 116 = .ok (.l2i, 1) := by decide +kernel
theorem dX1_part_117 : decode cX1_part 117 = .ok (.ireturn, 1) := by decide +kernel
theorem dX1_part_118 : decode cX1_part 118 = .ok (.aload_n 0, 1) := by decide +kernel
theorem dX1_part_119 : decode cX1_part 119 = .ok (.iload_n 1, 1) := by decide +kernel
theorem dX1_part_120 : decode cX1_part 120 = .ok (.invokevirtual 88, 3) := by decide +kernel
theorem dX1_part_123 : decode cX1_part 123 = .ok (.ireturn, 1) := by decide +kernel
theorem dX1_part_124 : decode cX1_part 124 = .ok (.aload_n 0, 1) := by decide +kernel
theorem dX1_part_125 : decode cX1_part 125 = .ok (.iload_n 1, 1) := by decide +kernel
theorem dX1_part_126 : decode cX1_part 126 = .ok (.invokevirtual 91, 3) := by decide +kernel
theorem dX1_part_129 : decode cX1_part 129 = .ok (.ireturn, 1) := by decide +kernel
theorem dX1_part_130 : decode cX1_part 130 = .ok (.aload_n 0, 1) := by decide +kernel
theorem dX1_part_131 : decode cX1_part 131 = .ok (.getfield 21, 3) := by decide +kernel
theorem dX1_part_134 : decode cX1_part 134 = .ok (.iload_n 1, 1) := by decide +kernel
theorem dX1_part_135 : decode cX1_part 135 = .ok (.invokestatic 63, 3) := by decide +kernel
theorem dX1_part_138 : decode cX1_part 138 = .ok (.iconst 0, 1) := by decide +kernel
theorem dX1_part_139 : decode cX1_part 139 = .ok (.bipush 6, 2) := by decide +kernel
theorem dX1_part_141 : decode cX1_part 141 = .ok (.invokestatic 67, 3) := by decide +kernel
theorem dX1_part_144 : decode cX1_part 144 = .ok (.iconst 1, 1) := by decide +kernel
theorem dX1_part_145 : decode cX1_part 145 = .ok (.isub, 1) := by decide +kernel
theorem dX1_part_146 : decode cX1_part 146 = .ok (.ireturn, 1) := by decide +kernel
theorem dX1_proofSize_0 : decode cX1_proofSize 0 = .ok (.aload_n 0, 1) := by decide +kernel
theorem dX1_proofSize_1 : decode cX1_proofSize 1 = .ok (.getfield 25, 3) := by decide +kernel
theorem dX1_proofSize_4 : decode cX1_proofSize 4 = .ok (.iconst 0, 1) := by decide +kernel
theorem dX1_proofSize_5 : decode cX1_proofSize 5 = .ok (.invokestatic 28, 3) := by decide +kernel
theorem dX1_proofSize_8 : decode cX1_proofSize 8 = .ok (.aload_n 0, 1) := by decide +kernel
theorem dX1_proofSize_9 : decode cX1_proofSize 9 = .ok (.getfield 25, 3) := by decide +kernel
theorem dX1_proofSize_12 : decode cX1_proofSize 12 = .ok (.iload_n 1, 1) := by decide +kernel
theorem dX1_proofSize_13 : decode cX1_proofSize 13 = .ok (.iconst 1, 1) := by decide +kernel
theorem dX1_proofSize_14 : decode cX1_proofSize 14 = .ok (.invokestatic 39, 3) := by decide +kernel
theorem dX1_proofSize_17 : decode cX1_proofSize 17 = .ok (.iconst 0, 1) := by decide +kernel
theorem dX1_proofSize_18 : decode cX1_proofSize 18 = .ok (.istore_n 2, 1) := by decide +kernel
theorem dX1_proofSize_19 : decode cX1_proofSize 19 = .ok (.iload_n 1, 1) := by decide +kernel
theorem dX1_proofSize_20 : decode cX1_proofSize 20 = .ok (.istore_n 3, 1) := by decide +kernel
theorem dX1_proofSize_21 : decode cX1_proofSize 21 = .ok (.iload_n 3, 1) := by decide +kernel
theorem dX1_proofSize_22 : decode cX1_proofSize 22 = .ok (.ifCond .lt 50, 3) := by decide +kernel
theorem dX1_proofSize_25 : decode cX1_proofSize 25 = .ok (.aload_n 0, 1) := by decide +kernel
theorem dX1_proofSize_26 : decode cX1_proofSize 26 = .ok (.getfield 25, 3) := by decide +kernel
theorem dX1_proofSize_29 : decode cX1_proofSize 29 = .ok (.iload_n 3, 1) := by decide +kernel
theorem dX1_proofSize_30 : decode cX1_proofSize 30 = .ok (.invokestatic 51, 3) := by decide +kernel
theorem dX1_proofSize_33 : decode cX1_proofSize 33 = .ok (.iconst 1, 1) := by decide +kernel
theorem dX1_proofSize_34 : decode cX1_proofSize 34 = .ok (.if_icmp .ne 32, 3) := by decide +kernel
theorem dX1_proofSize_37 : decode cX1_proofSize 37 = .ok (.iinc 2 1, 3) := by decide +kernel
theorem dX1_proofSize_40 : decode cX1_proofSize 40 = .ok (.aload_n 0, 1) := by decide +kernel
theorem dX1_proofSize_41 : decode cX1_proofSize 41 = .ok (.getfield 25, 3) := by decide +kernel
theorem dX1_proofSize_44 : decode cX1_proofSize 44 = .ok (.aload_n 0, 1) := by decide +kernel
theorem dX1_proofSize_45 : decode cX1_proofSize 45 = .ok (.iload_n 3, 1) := by decide +kernel
theorem dX1_proofSize_46 : decode cX1_proofSize 46 = .ok (.invokevirtual 88, 3) := by decide +kernel
theorem dX1_proofSize_49 : decode cX1_proofSize 49 = .ok (.iconst 1, 1) := by decide +kernel
theorem dX1_proofSize_50 : decode cX1_proofSize 50 = .ok (.invokestatic 39, 3) := by decide +kernel
theorem dX1_proofSize_53 : decode cX1_proofSize 53 = .ok (.aload_n 0, 1) := by decide +kernel
theorem dX1_proofSize_54 : decode cX1_proofSize 54 = .ok (.getfield 25, 3) := by decide +kernel
theorem dX1_proofSize_57 : decode cX1_proofSize 57 = .ok (.aload_n 0, 1) := by decide +kernel
theorem dX1_proofSize_58 : decode cX1_proofSize 58 = .ok (.iload_n 3, 1) := by decide +kernel
theorem dX1_proofSize_59 : decode cX1_proofSize 59 = .ok (.invokevirtual 91, 3) := by decide +kernel
theorem dX1_proofSize_62 : decode cX1_proofSize 62 = .ok (.iconst 1, 1) := by decide +kernel
theorem dX1_proofSize_63 : decode cX1_proofSize 63 = .ok (.invokestatic 39, 3) := by decide +kernel
theorem dX1_proofSize_66 : decode cX1_proofSize 66 = .ok (.iinc 3 (-1), 3) := by decide +kernel
theorem dX1_proofSize_69 : decode cX1_proofSize 69 = .ok (.goto (-48), 3) := by decide +kernel
theorem dX1_proofSize_72 : decode cX1_proofSize 72 = .ok (.iload_n 2, 1) := by decide +kernel
theorem dX1_proofSize_73 : decode cX1_proofSize 73 = .ok (.ireturn, 1) := by decide +kernel
theorem dX2_init_0 : decode cX2_init 0 = .ok (.aload_n 0, 1) := by decide +kernel
theorem dX2_init_1 : decode cX2_init 1 = .ok (.invokespecial 3, 3) := by decide +kernel
theorem dX2_init_4 : decode cX2_init 4 = .ok (.aload_n 0, 1) := by decide +kernel
theorem dX2_init_5 : decode cX2_init 5 = .ok (.bipush 20, 2) := by decide +kernel
theorem dX2_init_7 : decode cX2_init 7 = .ok (.newarray .int, 2) := by decide +kernel
theorem dX2_init_9 : decode cX2_init 9 = .ok (.putfield 9, 3) := by decide +kernel
theorem dX2_init_12 : decode cX2_init 12 = .ok (.aload_n 0, 1) := by decide +kernel
theorem dX2_init_13 : decode cX2_init 13 = .ok (.bipush 80, 2) := by decide +kernel
theorem dX2_init_15 : decode cX2_init 15 = .ok (.newarray .int, 2) := by decide +kernel
theorem dX2_init_17 : decode cX2_init 17 = .ok (.putfield 15, 3) := by decide +kernel
theorem dX2_init_20 : decode cX2_init 20 = .ok (.return_, 1) := by decide +kernel
theorem dX2_build_0 : decode cX2_build 0 = .ok (.iconst 0, 1) := by decide +kernel
theorem dX2_build_1 : decode cX2_build 1 = .ok (.istore 4, 2) := by decide +kernel
theorem dX2_build_3 : decode cX2_build 3 = .ok (.iconst 0, 1) := by decide +kernel
theorem dX2_build_4 : decode cX2_build 4 = .ok (.istore 5, 2) := by decide +kernel
theorem dX2_build_6 : decode cX2_build 6 = .ok (.iload 5, 2) := by decide +kernel
theorem dX2_build_8 : decode cX2_build 8 = .ok (.aload_n 1, 1) := by decide +kernel
theorem dX2_build_9 : decode cX2_build 9 = .ok (.getfield 18, 3) := by decide +kernel
theorem dX2_build_12 : decode cX2_build 12 = .ok (.if_icmp .ge 40, 3) := by decide +kernel
theorem dX2_build_15 : decode cX2_build 15 = .ok (.aload_n 3, 1) := by decide +kernel
theorem dX2_build_16 : decode cX2_build 16 = .ok (.iload 5, 2) := by decide +kernel
theorem dX2_build_18 : decode cX2_build 18 = .ok (.iload 5, 2) := by decide +kernel
theorem dX2_build_20 : decode cX2_build 20 = .ok (.invokevirtual 24, 3) := by decide +kernel
theorem dX2_build_23 : decode cX2_build 23 = .ok (.ifCond .eq 23, 3) := by decide +kernel
theorem dX2_build_26 : decode cX2_build 26 = .ok (.aload_n 3, 1) := by decide +kernel
theorem dX2_build_27 : decode cX2_build 27 = .ok (.iload 5, 2) := by decide +kernel
theorem dX2_build_29 : decode cX2_build 29 = .ok (.iconst 1, 1) := by decide +kernel
theorem dX2_build_30 : decode cX2_build 30 = .ok (.invokevirtual 24, 3) := by decide +kernel
theorem dX2_build_33 : decode cX2_build 33 = .ok (.ifCond .ne 13, 3) := by decide +kernel
theorem dX2_build_36 : decode cX2_build 36 = .ok (.iload 4, 2) := by decide +kernel
theorem dX2_build_38 : decode cX2_build 38 = .ok (.iload 5, 2) := by decide +kernel
theorem dX2_build_40 : decode cX2_build 40 = .ok (.invokestatic 30, 3) := by decide +kernel
theorem dX2_build_43 : decode cX2_build 43 = .ok (.ior, 1) := by decide +kernel
theorem dX2_build_44 : decode cX2_build 44 = .ok (.istore 4, 2) := by decide +kernel
theorem dX2_build_46 : decode cX2_build 46 = .ok (.iinc 5 1, 3) := by decide +kernel
theorem dX2_build_49 : decode cX2_build 49 = .ok (.goto (-43), 3) := by decide +kernel
theorem dX2_build_52 : decode cX2_build 52 = .ok (.aload_n 0, 1) := by decide +kernel
theorem dX2_build_53 : decode cX2_build 53 = .ok (.getfield 15, 3) := by decide +kernel
theorem dX2_build_56 : decode cX2_build 56 = .ok (.iconst 0, 1) := by decide +kernel
theorem dX2_build_57 : decode cX2_build 57 = .ok (.invokestatic 34, 3) := by decide +kernel
theorem dX2_build_60 : decode cX2_build 60 = .ok (.iconst 0, 1) := by decide +kernel
theorem dX2_build_61 : decode cX2_build 61 = .ok (.istore 5, 2) := by decide +kernel
theorem dX2_build_63 : decode cX2_build 63 = .ok (.iload 5, 2) := by decide +kernel
theorem dX2_build_65 : decode cX2_build 65 = .ok (.aload_n 1, 1) := by decide +kernel
theorem dX2_build_66 : decode cX2_build 66 = .ok (.getfield 18, 3) := by decide +kernel
theorem dX2_build_69 : decode cX2_build 69 = .ok (.if_icmp .ge 57, 3) := by decide +kernel
theorem dX2_build_72 : decode cX2_build 72 = .ok (.iconst 0, 1) := by decide +kernel
theorem dX2_build_73 : decode cX2_build 73 = .ok (.istore 6, 2) := by decide +kernel
theorem dX2_build_75 : decode cX2_build 75 = .ok (.iload 6, 2) := by decide +kernel
theorem dX2_build_77 : decode cX2_build 77 = .ok (.aload_n 1, 1) := by decide +kernel
theorem dX2_build_78 : decode cX2_build 78 = .ok (.getfield 18, 3) := by decide +kernel
theorem dX2_build_81 : decode cX2_build 81 = .ok (.if_icmp .ge 39, 3) := by decide +kernel
theorem dX2_build_84 : decode cX2_build 84 = .ok (.iload 4, 2) := by decide +kernel
theorem dX2_build_86 : decode cX2_build 86 = .ok (.iload 5, 2) := by decide +kernel
theorem dX2_build_88 : decode cX2_build 88 = .ok (.invokestatic 38, 3) := by decide +kernel
theorem dX2_build_91 : decode cX2_build 91 = .ok (.ifCond .eq 23, 3) := by decide +kernel
theorem dX2_build_94 : decode cX2_build 94 = .ok (.iload 4, 2) := by decide +kernel
theorem dX2_build_96 : decode cX2_build 96 = .ok (.iload 6, 2) := by decide +kernel
theorem dX2_build_98 : decode cX2_build 98 = .ok (.invokestatic 38, 3) := by decide +kernel
theorem dX2_build_101 : decode cX2_build 101 = .ok (.ifCond .eq 13, 3) := by decide +kernel
theorem dX2_build_104 : decode cX2_build 104 = .ok (.aload_n 0, 1) := by decide +kernel
theorem dX2_build_105 : decode cX2_build 105 = .ok (.aload_n 2, 1) := by decide +kernel
theorem dX2_build_106 : decode cX2_build 106 = .ok (.aload_n 3, 1) := by decide +kernel
theorem dX2_build_107 : decode cX2_build 107 = .ok (.iload 5, 2) := by decide +kernel
theorem dX2_build_109 : decode cX2_build 109 = .ok (.iload 6, 2) := by decide +kernel
theorem dX2_build_111 : decode cX2_build 111 = .ok (.invokevirtual 41, 3) := by decide +kernel
theorem dX2_build_114 : decode cX2_build 114 = .ok (.iinc 6 1, 3) := by decide +kernel
theorem dX2_build_117 : decode cX2_build 117 = .ok (.goto (-42), 3) := by decide +kernel
theorem dX2_build_120 : decode cX2_build 120 = .ok (.iinc 5 1, 3) := by decide +kernel
theorem dX2_build_123 : decode cX2_build 123 = .ok (.goto (-60), 3) := by decide +kernel
theorem dX2_build_126 : decode cX2_build 126 = .ok (.iconst 0, 1) := by decide +kernel
theorem dX2_build_127 : decode cX2_build 127 = .ok (.istore 5, 2) := by decide +kernel
theorem dX2_build_129 : decode cX2_build 129 = .ok (.iload 5, 2) := by decide +kernel
theorem dX2_build_131 : decode cX2_build 131 = .ok (.aload_n 1, 1) := by decide +kernel
theorem dX2_build_132 : decode cX2_build 132 = .ok (.getfield 18, 3) := by decide +kernel
theorem dX2_build_135 : decode cX2_build 135 = .ok (.if_icmp .ge 28, 3) := by decide +kernel
theorem dX2_build_138 : decode cX2_build 138 = .ok (.aload_n 0, 1) := by decide +kernel
theorem dX2_build_139 : decode cX2_build 139 = .ok (.getfield 9, 3) := by decide +kernel
theorem dX2_build_142 : decode cX2_build 142 = .ok (.iload 5, 2) := by decide +kernel
theorem dX2_build_144 : decode cX2_build 144 = .ok (.aload_n 0, 1) := by decide +kernel
theorem dX2_build_145 : decode cX2_build 145 = .ok (.aload_n 1, 1) := by decide +kernel
theorem dX2_build_146 : decode cX2_build 146 = .ok (.aload_n 3, 1) := by decide +kernel
theorem dX2_build_147 : decode cX2_build 147 = .ok (.iload 5, 2) := by decide +kernel
theorem dX2_build_149 : decode cX2_build 149 = .ok (.iload 4, 2) := by decide +kernel
theorem dX2_build_151 : decode cX2_build 151 = .ok (.invokevirtual 45, 3) := by decide +kernel
theorem dX2_build_154 : decode cX2_build 154 = .ok (.invokestatic 49, 3) := by decide +kernel
theorem dX2_build_157 : decode cX2_build 157 = .ok (.iinc 5 1, 3) := by decide +kernel
theorem dX2_build_160 : decode cX2_build 160 = .ok (.goto (-31), 3) := by decide +kernel
theorem dX2_build_163 : decode cX2_build 163 = .ok (.return_, 1) := by decide +kernel
theorem dX2_members_0 : decode cX2_members 0 = .ok (.iload_n 1, 1) := by decide +kernel
theorem dX2_members_1 : decode cX2_members 1 = .ok (.bipush 20, 2) := by decide +kernel
theorem dX2_members_3 : decode cX2_members 3 = .ok (.invokestatic 53, 3) := by decide +kernel
theorem dX2_members_6 : decode cX2_members 6 = .ok (.ifCond .eq 14, 3) := by decide +kernel
theorem dX2_members_9 : decode cX2_members 9 = .ok (.aload_n 0, 1) := by decide +kernel
theorem dX2_members_10 : decode cX2_members 10 = .ok (.getfield 9, 3) := by decide +kernel
theorem dX2_members_13 : decode cX2_members 13 = .ok (.iload_n 1, 1) := by decide +kernel
theorem dX2_members_14 : decode cX2_members 14 = .ok (.invokestatic 56, 3) := by decide +kernel
theorem dX2_members_17 : decode cX2_members 17 = .ok (.goto 4, 3) := by decide +kernel
theorem dX2_members_20 : decode cX2_members 20 = .ok (.iconst 0, 1) := by decide +kernel
theorem dX2_members_21 : decode cX2_members 21 = .ok (.ireturn, 1) := by decide +kernel
theorem dX2_partners_0 : decode cX2_partners 0 = .ok (.iload_n 1, 1) := by decide +kernel
theorem dX2_partners_1 : decode cX2_partners 1 = .ok (.invokestatic 60, 3) := by decide +kernel
theorem dX2_partners_4 : decode cX2_partners 4 = .ok (.ifCond .eq 28, 3) := by decide +kernel
theorem dX2_partners_7 : decode cX2_partners 7 = .ok (.iload_n 2, 1) := by decide +kernel
theorem dX2_partners_8 : decode cX2_partners 8 = .ok (.bipush 20, 2) := by decide +kernel
theorem dX2_partners_10 : decode cX2_partners 10 = .ok (.invokestatic 53, 3) := by decide +kernel
theorem dX2_partners_13 : decode cX2_partners 13 = .ok (.ifCond .eq 19, 3) := by decide +kernel
theorem dX2_partners_16 : decode cX2_partners 16 = .ok (.aload_n 0, 1) := by decide +kernel
theorem dX2_partners_17 : decode cX2_partners 17 = .ok (.getfield 15, 3) := by decide +kernel
theorem dX2_partners_20 : decode cX2_partners 20 = .ok (.iload_n 1, 1) := by decide +kernel
theorem dX2_partners_21 : decode cX2_partners 21 = .ok (.bipush 20, 2) := by decide +kernel
theorem dX2_partners_23 : decode cX2_partners 23 = .ok (.imul, 1) := by decide +kernel
theorem dX2_partners_24 : decode cX2_partners 24 = .ok (.iload_n 2, 1) := by decide +kernel
theorem dX2_partners_25 : decode cX2_partners 25 = .ok (.iadd, 1) := by decide +kernel
theorem dX2_partners_26 : decode cX2_partners 26 = .ok (.invokestatic 56, 3) := by decide +kernel
theorem dX2_partners_29 : decode cX2_partners 29 = .ok (.goto 4, 3) := by decide +kernel
theorem dX2_partners_32 : decode cX2_partners 32 = .ok (.iconst 0, 1) := by decide +kernel
theorem dX2_partners_33 : decode cX2_partners 33 = .ok (.ireturn, 1) := by decide +kernel
theorem dX2_roleWithin_0 : decode cX2_roleWithin 0 = .ok (.iconst 0, 1) := by decide +kernel
theorem dX2_roleWithin_1 : decode cX2_roleWithin 1 = .ok (.istore_n 3, 1) := by decide +kernel
theorem dX2_roleWithin_2 : decode cX2_roleWithin 2 = .ok (.iload_n 3, 1) := by decide +kernel
theorem dX2_roleWithin_3 : decode cX2_roleWithin 3 = .ok (.bipush 20, 2) := by decide +kernel
theorem dX2_roleWithin_5 : decode cX2_roleWithin 5 = .ok (.if_icmp .ge 29, 3) := by decide +kernel
theorem dX2_roleWithin_8 : decode cX2_roleWithin 8 = .ok (.aload_n 0, 1) := by decide +kernel
theorem dX2_roleWithin_9 : decode cX2_roleWithin 9 = .ok (.iload_n 1, 1) := by decide +kernel
theorem dX2_roleWithin_10 : decode cX2_roleWithin 10 = .ok (.iload_n 3, 1) := by decide +kernel
theorem dX2_roleWithin_11 : decode cX2_roleWithin 11 = .ok (.invokevirtual 64, 3) := by decide +kernel
theorem dX2_roleWithin_14 : decode cX2_roleWithin 14 = .ok (.aload_n 0, 1) := by decide +kernel
theorem dX2_roleWithin_15 : decode cX2_roleWithin 15 = .ok (.iload_n 2, 1) := by decide +kernel
theorem dX2_roleWithin_16 : decode cX2_roleWithin 16 = .ok (.iload_n 3, 1) := by decide +kernel
theorem dX2_roleWithin_17 : decode cX2_roleWithin 17 = .ok (.invokevirtual 64, 3) := by decide +kernel
theorem dX2_roleWithin_20 : decode cX2_roleWithin 20 = .ok (.iconst (-1), 1) := by decide +kernel
theorem dX2_roleWithin_21 : decode cX2_roleWithin 21 = .ok (.ixor, 1) := by decide +kernel
theorem dX2_roleWithin_22 : decode cX2_roleWithin 22 = .ok (.iand, 1) := by decide +kernel
theorem dX2_roleWithin_23 : decode cX2_roleWithin 23 = .ok (.ifCond .eq 5, 3) := by decide +kernel
theorem dX2_roleWithin_26 : decode cX2_roleWithin 26 = .ok (.iconst 0, 1) := by decide +kernel
theorem dX2_roleWithin_27 : decode cX2_roleWithin 27 = .ok (.ireturn, 1) := by decide +kernel
theorem dX2_roleWithin_28 : decode cX2_roleWithin 28 = .ok (.iinc 3 1, 3) := by decide +kernel
theorem dX2_roleWithin_31 : decode cX2_roleWithin 31 = .ok (.goto (-29), 3) := by decide +kernel
theorem dX2_roleWithin_34 : decode cX2_roleWithin 34 = .ok (.iconst 1, 1) := by decide +kernel
theorem dX2_roleWithin_35 : decode cX2_roleWithin 35 = .ok (.ireturn, 1) := by decide +kernel
theorem dX2_chainWithin_0 : decode cX2_chainWithin 0 = .ok (.iconst 0, 1) := by decide +kernel
theorem dX2_chainWithin_1 : decode cX2_chainWithin 1 = .ok (.istore 4, 2) := by decide +kernel
theorem dX2_chainWithin_3 : decode cX2_chainWithin 3 = .ok (.iload 4, 2) := by decide +kernel
theorem dX2_chainWithin_5 : decode cX2_chainWithin 5 = .ok (.bipush 20, 2) := by decide +kernel
theorem dX2_chainWithin_7 : decode cX2_chainWithin 7 = .ok (.if_icmp .ge 62, 3) := by decide +kernel
theorem dX2_chainWithin_10 : decode cX2_chainWithin 10 = .ok (.iconst 0, 1) := by decide +kernel
theorem dX2_chainWithin_11 : decode cX2_chainWithin 11 = .ok (.istore 5, 2) := by decide +kernel
theorem dX2_chainWithin_13 : decode cX2_chainWithin 13 = .ok (.iload 5, 2) := by decide +kernel
theorem dX2_chainWithin_15 : decode cX2_chainWithin 15 = .ok (.bipush 20, 2) := by decide +kernel
theorem dX2_chainWithin_17 : decode cX2_chainWithin 17 = .ok (.if_icmp .ge 46, 3) := by decide +kernel
theorem dX2_chainWithin_20 : decode cX2_chainWithin 20 = .ok (.aload_n 0, 1) := by decide +kernel
theorem dX2_chainWithin_21 : decode cX2_chainWithin 21 = .ok (.iload_n 1, 1) := by decide +kernel
theorem dX2_chainWithin_22 : decode cX2_chainWithin 22 = .ok (.iload 4, 2) := by decide +kernel
theorem dX2_chainWithin_24 : decode cX2_chainWithin 24 = .ok (.invokevirtual 64, 3) := by decide +kernel
theorem dX2_chainWithin_27 : decode cX2_chainWithin 27 = .ok (.iload 5, 2) := by decide +kernel
theorem dX2_chainWithin_29 : decode cX2_chainWithin 29 = .ok (.invokestatic 38, 3) := by decide +kernel
theorem dX2_chainWithin_32 : decode cX2_chainWithin 32 = .ok (.ifCond .eq 25, 3) := by decide +kernel
theorem dX2_chainWithin_35 : decode cX2_chainWithin 35 = .ok (.aload_n 0, 1) := by decide +kernel
theorem dX2_chainWithin_36 : decode cX2_chainWithin 36 = .ok (.iload_n 2, 1) := by decide +kernel
theorem dX2_chainWithin_37 : decode cX2_chainWithin 37 = .ok (.iload 5, 2) := by decide +kernel
theorem dX2_chainWithin_39 : decode cX2_chainWithin 39 = .ok (.invokevirtual 64, 3) := by decide +kernel
theorem dX2_chainWithin_42 : decode cX2_chainWithin 42 = .ok (.aload_n 0, 1) := by decide +kernel
theorem dX2_chainWithin_43 : decode cX2_chainWithin 43 = .ok (.iload_n 3, 1) := by decide +kernel
theorem dX2_chainWithin_44 : decode cX2_chainWithin 44 = .ok (.iload 4, 2) := by decide +kernel
theorem dX2_chainWithin_46 : decode cX2_chainWithin 46 = .ok (.invokevirtual 64, 3) := by decide +kernel
theorem dX2_chainWithin_49 : decode cX2_chainWithin 49 = .ok (.iconst (-1), 1) := by decide +kernel
theorem dX2_chainWithin_50 : decode cX2_chainWithin 50 = .ok (.ixor, 1) := by decide +kernel
theorem dX2_chainWithin_51 : decode cX2_chainWithin 51 = .ok (.iand, 1) := by decide +kernel
theorem dX2_chainWithin_52 : decode cX2_chainWithin 52 = .ok (.ifCond .eq 5, 3) := by decide +kernel
theorem dX2_chainWithin_55 : decode cX2_chainWithin 55 = .ok (.iconst 0, 1) := by decide +kernel
theorem dX2_chainWithin_56 : decode cX2_chainWithin 56 = .ok (.ireturn, 1) := by decide +kernel
theorem dX2_chainWithin_57 : decode cX2_chainWithin 57 = .ok (.iinc 5 1, 3) := by decide +kernel
theorem dX2_chainWithin_60 : decode cX2_chainWithin 60 = .ok (.goto (-47), 3) := by decide +kernel
theorem dX2_chainWithin_63 : decode cX2_chainWithin 63 = .ok (.iinc 4 1, 3) := by decide +kernel
theorem dX2_chainWithin_66 : decode cX2_chainWithin 66 = .ok (.goto (-63), 3) := by decide +kernel
theorem dX2_chainWithin_69 : decode cX2_chainWithin 69 = .ok (.iconst 1, 1) := by decide +kernel
theorem dX2_chainWithin_70 : decode cX2_chainWithin 70 = .ok (.ireturn, 1) := by decide +kernel
theorem dX2_buildPair_0 : decode cX2_buildPair 0 = .ok (.iconst 0, 1) := by decide +kernel
theorem dX2_buildPair_1 : decode cX2_buildPair 1 = .ok (.istore 5, 2) := by decide +kernel
theorem dX2_buildPair_3 : decode cX2_buildPair 3 = .ok (.iload 5, 2) := by decide +kernel
theorem dX2_buildPair_5 : decode cX2_buildPair 5 = .ok (.iconst 4, 1) := by decide +kernel
theorem dX2_buildPair_6 : decode cX2_buildPair 6 = .ok (.if_icmp .ge 74, 3) := by decide +kernel
theorem dX2_buildPair_9 : decode cX2_buildPair 9 = .ok (.iconst 0, 1) := by decide +kernel
theorem dX2_buildPair_10 : decode cX2_buildPair 10 = .ok (.istore 6, 2) := by decide +kernel
theorem dX2_buildPair_12 : decode cX2_buildPair 12 = .ok (.iload 6, 2) := by decide +kernel
theorem dX2_buildPair_14 : decode cX2_buildPair 14 = .ok (.iconst 4, 1) := by decide +kernel
theorem dX2_buildPair_15 : decode cX2_buildPair 15 = .ok (.if_icmp .ge 59, 3) := by decide +kernel
theorem dX2_buildPair_18 : decode cX2_buildPair 18 = .ok (.aload_n 2, 1) := by decide +kernel
theorem dX2_buildPair_19 : decode cX2_buildPair 19 = .ok (.iload_n 3, 1) := by decide +kernel
theorem dX2_buildPair_20 : decode cX2_buildPair 20 = .ok (.iload 5, 2) := by decide +kernel
theorem dX2_buildPair_22 : decode cX2_buildPair 22 = .ok (.iload 4, 2) := by decide +kernel
theorem dX2_buildPair_24 : decode cX2_buildPair 24 = .ok (.invokevirtual 68, 3) := by decide +kernel
theorem dX2_buildPair_27 : decode cX2_buildPair 27 = .ok (.ifCond .eq 41, 3) := by decide +kernel
theorem dX2_buildPair_30 : decode cX2_buildPair 30 = .ok (.aload_n 1, 1) := by decide +kernel
theorem dX2_buildPair_31 : decode cX2_buildPair 31 = .ok (.iload 5, 2) := by decide +kernel
theorem dX2_buildPair_33 : decode cX2_buildPair 33 = .ok (.iload 6, 2) := by decide +kernel
theorem dX2_buildPair_35 : decode cX2_buildPair 35 = .ok (.invokevirtual 72, 3) := by decide +kernel
theorem dX2_buildPair_38 : decode cX2_buildPair 38 = .ok (.ifCond .eq 30, 3) := by decide +kernel
theorem dX2_buildPair_41 : decode cX2_buildPair 41 = .ok (.aload_n 0, 1) := by decide +kernel
theorem dX2_buildPair_42 : decode cX2_buildPair 42 = .ok (.getfield 15, 3) := by decide +kernel
theorem dX2_buildPair_45 : decode cX2_buildPair 45 = .ok (.iload 6, 2) := by decide +kernel
theorem dX2_buildPair_47 : decode cX2_buildPair 47 = .ok (.bipush 20, 2) := by decide +kernel
theorem dX2_buildPair_49 : decode cX2_buildPair 49 = .ok (.imul, 1) := by decide +kernel
theorem dX2_buildPair_50 : decode cX2_buildPair 50 = .ok (.iload_n 3, 1) := by decide +kernel
theorem dX2_buildPair_51 : decode cX2_buildPair 51 = .ok (.iadd, 1) := by decide +kernel
theorem dX2_buildPair_52 : decode cX2_buildPair 52 = .ok (.aload_n 0, 1) := by decide +kernel
theorem dX2_buildPair_53 : decode cX2_buildPair 53 = .ok (.iload 6, 2) := by decide +kernel
theorem dX2_buildPair_55 : decode cX2_buildPair 55 = .ok (.iload_n 3, 1) := by decide +kernel
theorem dX2_buildPair_56 : decode cX2_buildPair 56 = .ok (.invokevirtual 64, 3) := by decide +kernel
theorem dX2_buildPair_59 : decode cX2_buildPair 59 = .ok (.iload 4, 2) := by decide +kernel
theorem dX2_buildPair_61 : decode cX2_buildPair 61 = .ok (.invokestatic 30, 3) := by decide +kernel
theorem dX2_buildPair_64 : decode cX2_buildPair 64 = .ok (.ior, 1) := by decide +kernel
theorem dX2_buildPair_65 : decode cX2_buildPair 65 = .ok (.invokestatic 49, 3) := by decide +kernel
theorem dX2_buildPair_68 : decode cX2_buildPair 68 = .ok (.iinc 6 1, 3) := by decide +kernel
theorem dX2_buildPair_71 : decode cX2_buildPair 71 = .ok (.goto (-59), 3) := by decide +kernel
theorem dX2_buildPair_74 : decode cX2_buildPair 74 = .ok (.iinc 5 1, 3) := by decide +kernel
theorem dX2_buildPair_77 : decode cX2_buildPair 77 = .ok (.goto (-74), 3) := by decide +kernel
theorem dX2_buildPair_80 : decode cX2_buildPair 80 = .ok (.return_, 1) := by decide +kernel
theorem dX2_membersByMeaning_0 : decode cX2_membersByMeaning 0 = .ok (.aload_n 1, 1) := by decide +kernel
theorem dX2_membersByMeaning_1 : decode cX2_membersByMeaning 1 = .ok (.iload_n 3, 1) := by decide +kernel
theorem dX2_membersByMeaning_2 : decode cX2_membersByMeaning 2 = .ok (.invokevirtual 77, 3) := by decide +kernel
theorem dX2_membersByMeaning_5 : decode cX2_membersByMeaning 5 = .ok (.istore 5, 2) := by decide +kernel
theorem dX2_membersByMeaning_7 : decode cX2_membersByMeaning 7 = .ok (.aload_n 1, 1) := by decide +kernel
theorem dX2_membersByMeaning_8 : decode cX2_membersByMeaning 8 = .ok (.iload_n 3, 1) := by decide +kernel
theorem dX2_membersByMeaning_9 : decode cX2_membersByMeaning 9 = .ok (.invokevirtual 80, 3) := by decide +kernel
theorem dX2_membersByMeaning_12 : decode cX2_membersByMeaning 12 = .ok (.istore 6, 2) := by decide +kernel
theorem dX2_membersByMeaning_14 : decode cX2_membersByMeaning 14 = .ok (.aload_n 1, 1) := by decide +kernel
theorem dX2_membersByMeaning_15 : decode cX2_membersByMeaning 15 = .ok (.iload_n 3, 1) := by decide +kernel
theorem dX2_membersByMeaning_16 : decode cX2_membersByMeaning 16 = .ok (.invokevirtual 83, 3) := by decide +kernel
theorem dX2_membersByMeaning_19 : decode cX2_membersByMeaning 19 = .ok (.tableswitch 58 0 3 #[29, 32, 34, 44], 29) := by decide +kernel
theorem dX2_membersByMeaning_48 : decode cX2_membersByMeaning 48 = .ok (.iload 4, 2) := by decide +kernel
theorem dX2_membersByMeaning_50 : decode cX2_membersByMeaning 50 = .ok (.ireturn, 1) := by decide +kernel
theorem dX2_membersByMeaning_51 : decode cX2_membersByMeaning 51 = .ok (.iconst 0, 1) := by decide +kernel
theorem dX2_membersByMeaning_52 : decode cX2_membersByMeaning 52 = .ok (.ireturn, 1) := by decide +kernel
theorem dX2_membersByMeaning_53 : decode cX2_membersByMeaning 53 = .ok (.iload 4, 2) := by decide +kernel
theorem dX2_membersByMeaning_55 : decode cX2_membersByMeaning 55 = .ok (.aload_n 1, 1) := by decide +kernel
theorem dX2_membersByMeaning_56 : decode cX2_membersByMeaning 56 = .ok (.aload_n 2, 1) := by decide +kernel
theorem dX2_membersByMeaning_57 : decode cX2_membersByMeaning 57 = .ok (.iload_n 3, 1) := by decide +kernel
theorem dX2_membersByMeaning_58 : decode cX2_membersByMeaning 58 = .ok (.invokestatic 86, 3) := by decide +kernel
theorem dX2_membersByMeaning_61 : decode cX2_membersByMeaning 61 = .ok (.iand, 1) := by decide +kernel
theorem dX2_membersByMeaning_62 : decode cX2_membersByMeaning 62 = .ok (.ireturn, 1) := by decide +kernel
theorem dX2_membersByMeaning_63 : decode cX2_membersByMeaning 63 = .ok (.aload_n 0, 1) := by decide +kernel
theorem dX2_membersByMeaning_64 : decode cX2_membersByMeaning 64 = .ok (.iload 5, 2) := by decide +kernel
theorem dX2_membersByMeaning_66 : decode cX2_membersByMeaning 66 = .ok (.invokevirtual 90, 3) := by decide +kernel
theorem dX2_membersByMeaning_69 : decode cX2_membersByMeaning 69 = .ok (.aload_n 0, 1) := by decide +kernel
theorem dX2_membersByMeaning_70 : decode cX2_membersByMeaning 70 = .ok (.iload 6, 2) := by decide +kernel
theorem dX2_membersByMeaning_72 : decode cX2_membersByMeaning 72 = .ok (.invokevirtual 90, 3) := by decide +kernel
theorem dX2_membersByMeaning_75 : decode cX2_membersByMeaning 75 = .ok (.iand, 1) := by decide +kernel
theorem dX2_membersByMeaning_76 : decode cX2_membersByMeaning 76 = .ok (.ireturn, 1) := by decide +kernel
theorem dX2_membersByMeaning_77 : decode cX2_membersByMeaning 77 = .ok (.aload_n 0, 1) := by decide +kernel
theorem dX2_membersByMeaning_78 : decode cX2_membersByMeaning 78 = .ok (.iload 5, 2) := by decide +kernel
theorem dX2_membersByMeaning_80 : decode cX2_membersByMeaning 80 = .ok (.aload_n 0, 1) := by decide +kernel
theorem dX2_membersByMeaning_81 : decode cX2_membersByMeaning 81 = .ok (.iload 6, 2) := by decide +kernel
theorem dX2_membersByMeaning_83 : decode cX2_membersByMeaning 83 = .ok (.invokevirtual 90, 3) := by decide +kernel
theorem dX2_membersByMeaning_86 : decode cX2_membersByMeaning 86 = .ok (.invokevirtual 93, 3) := by decide +kernel
theorem dX2_membersByMeaning_89 : decode cX2_membersByMeaning 89 = .ok (.ireturn, 1) := by decide +kernel
theorem dX2_subjects_0 : decode cX2_subjects 0 = .ok (.iconst 0, 1) := by decide +kernel
theorem dX2_subjects_1 : decode cX2_subjects 1 = .ok (.istore_n 3, 1) := by decide +kernel
theorem dX2_subjects_2 : decode cX2_subjects 2 = .ok (.iconst 0, 1) := by decide +kernel
theorem dX2_subjects_3 : decode cX2_subjects 3 = .ok (.istore 4, 2) := by decide +kernel
theorem dX2_subjects_5 : decode cX2_subjects 5 = .ok (.iload 4, 2) := by decide +kernel
theorem dX2_subjects_7 : decode cX2_subjects 7 = .ok (.aload_n 0, 1) := by decide +kernel
theorem dX2_subjects_8 : decode cX2_subjects 8 = .ok (.getfield 18, 3) := by decide +kernel
theorem dX2_subjects_11 : decode cX2_subjects 11 = .ok (.if_icmp .ge 27, 3) := by decide +kernel
theorem dX2_subjects_14 : decode cX2_subjects 14 = .ok (.aload_n 1, 1) := by decide +kernel
theorem dX2_subjects_15 : decode cX2_subjects 15 = .ok (.iload 4, 2) := by decide +kernel
theorem dX2_subjects_17 : decode cX2_subjects 17 = .ok (.iload_n 2, 1) := by decide +kernel
theorem dX2_subjects_18 : decode cX2_subjects 18 = .ok (.invokevirtual 24, 3) := by decide +kernel
theorem dX2_subjects_21 : decode cX2_subjects 21 = .ok (.ifCond .eq 11, 3) := by decide +kernel
theorem dX2_subjects_24 : decode cX2_subjects 24 = .ok (.iload_n 3, 1) := by decide +kernel
theorem dX2_subjects_25 : decode cX2_subjects 25 = .ok (.iload 4, 2) := by decide +kernel
theorem dX2_subjects_27 : decode cX2_subjects 27 = .ok (.invokestatic 30, 3) := by decide +kernel
theorem dX2_subjects_30 : decode cX2_subjects 30 = .ok (.ior, 1) := by decide +kernel
theorem dX2_subjects_31 : decode cX2_subjects 31 = .ok (.istore_n 3, 1) := by decide +kernel
theorem dX2_subjects_32 : decode cX2_subjects 32 = .ok (.iinc 4 1, 3) := by decide +kernel
theorem dX2_subjects_35 : decode cX2_subjects 35 = .ok (.goto (-30), 3) := by decide +kernel
theorem dX2_subjects_38 : decode cX2_subjects 38 = .ok (.iload_n 3, 1) := by decide +kernel
theorem dX2_subjects_39 : decode cX2_subjects 39 = .ok (.ireturn, 1) := by decide +kernel
theorem dX2_havers_0 : decode cX2_havers 0 = .ok (.iconst 0, 1) := by decide +kernel
theorem dX2_havers_1 : decode cX2_havers 1 = .ok (.istore_n 3, 1) := by decide +kernel
theorem dX2_havers_2 : decode cX2_havers 2 = .ok (.iconst 0, 1) := by decide +kernel
theorem dX2_havers_3 : decode cX2_havers 3 = .ok (.istore 4, 2) := by decide +kernel
theorem dX2_havers_5 : decode cX2_havers 5 = .ok (.iload 4, 2) := by decide +kernel
theorem dX2_havers_7 : decode cX2_havers 7 = .ok (.bipush 20, 2) := by decide +kernel
theorem dX2_havers_9 : decode cX2_havers 9 = .ok (.if_icmp .ge 29, 3) := by decide +kernel
theorem dX2_havers_12 : decode cX2_havers 12 = .ok (.aload_n 0, 1) := by decide +kernel
theorem dX2_havers_13 : decode cX2_havers 13 = .ok (.iload_n 1, 1) := by decide +kernel
theorem dX2_havers_14 : decode cX2_havers 14 = .ok (.iload 4, 2) := by decide +kernel
theorem dX2_havers_16 : decode cX2_havers 16 = .ok (.invokevirtual 64, 3) := by decide +kernel
theorem dX2_havers_19 : decode cX2_havers 19 = .ok (.iload_n 2, 1) := by decide +kernel
theorem dX2_havers_20 : decode cX2_havers 20 = .ok (.iand, 1) := by decide +kernel
theorem dX2_havers_21 : decode cX2_havers 21 = .ok (.ifCond .eq 11, 3) := by decide +kernel
theorem dX2_havers_24 : decode cX2_havers 24 = .ok (.iload_n 3, 1) := by decide +kernel
theorem dX2_havers_25 : decode cX2_havers 25 = .ok (.iload 4, 2) := by decide +kernel
theorem dX2_havers_27 : decode cX2_havers 27 = .ok (.invokestatic 30, 3) := by decide +kernel
theorem dX2_havers_30 : decode cX2_havers 30 = .ok (.ior, 1) := by decide +kernel
theorem dX2_havers_31 : decode cX2_havers 31 = .ok (.istore_n 3, 1) := by decide +kernel
theorem dX2_havers_32 : decode cX2_havers 32 = .ok (.iinc 4 1, 3) := by decide +kernel
theorem dX2_havers_35 : decode cX2_havers 35 = .ok (.goto (-30), 3) := by decide +kernel
theorem dX2_havers_38 : decode cX2_havers 38 = .ok (.iload_n 3, 1) := by decide +kernel
theorem dX2_havers_39 : decode cX2_havers 39 = .ok (.ireturn, 1) := by decide +kernel
theorem dX3_init_0 : decode cX3_init 0 = .ok (.aload_n 0, 1) := by decide +kernel
theorem dX3_init_1 : decode cX3_init 1 = .ok (.invokespecial 3, 3) := by decide +kernel
theorem dX3_init_4 : decode cX3_init 4 = .ok (.aload_n 0, 1) := by decide +kernel
theorem dX3_init_5 : decode cX3_init 5 = .ok (.bipush 60, 2) := by decide +kernel
theorem dX3_init_7 : decode cX3_init 7 = .ok (.newarray .int, 2) := by decide +kernel
theorem dX3_init_9 : decode cX3_init 9 = .ok (.putfield 9, 3) := by decide +kernel
theorem dX3_init_12 : decode cX3_init 12 = .ok (.aload_n 0, 1) := by decide +kernel
theorem dX3_init_13 : decode cX3_init 13 = .ok (.iconst 0, 1) := by decide +kernel
theorem dX3_init_14 : decode cX3_init 14 = .ok (.iconst (-1), 1) := by decide +kernel
theorem dX3_init_15 : decode cX3_init 15 = .ok (.iconst (-1), 1) := by decide +kernel
theorem dX3_init_16 : decode cX3_init 16 = .ok (.invokevirtual 15, 3) := by decide +kernel
theorem dX3_init_19 : decode cX3_init 19 = .ok (.pop, 1) := by decide +kernel
theorem dX3_init_20 : decode cX3_init 20 = .ok (.aload_n 0, 1) := by decide +kernel
theorem dX3_init_21 : decode cX3_init 21 = .ok (.iconst 1, 1) := by decide +kernel
theorem dX3_init_22 : decode cX3_init 22 = .ok (.iconst (-1), 1) := by decide +kernel
theorem dX3_init_23 : decode cX3_init 23 = .ok (.iconst (-1), 1) := by decide +kernel
theorem dX3_init_24 : decode cX3_init 24 = .ok (.invokevirtual 15, 3) := by decide +kernel
theorem dX3_init_27 : decode cX3_init 27 = .ok (.pop, 1) := by decide +kernel
theorem dX3_init_28 : decode cX3_init 28 = .ok (.return_, 1) := by decide +kernel
theorem dX3_add_0 : decode cX3_add 0 = .ok (.aload_n 0, 1) := by decide +kernel
theorem dX3_add_1 : decode cX3_add 1 = .ok (.getfield 19, 3) := by decide +kernel
theorem dX3_add_4 : decode cX3_add 4 = .ok (.iconst 3, 1) := by decide +kernel
theorem dX3_add_5 : decode cX3_add 5 = .ok (.imul, 1) := by decide +kernel
theorem dX3_add_6 : decode cX3_add 6 = .ok (.istore 4, 2) := by decide +kernel
theorem dX3_add_8 : decode cX3_add 8 = .ok (.aload_n 0, 1) := by decide +kernel
theorem dX3_add_9 : decode cX3_add 9 = .ok (.getfield 9, 3) := by decide +kernel
theorem dX3_add_12 : decode cX3_add 12 = .ok (.iload 4, 2) := by decide +kernel
theorem dX3_add_14 : decode cX3_add 14 = .ok (.iload_n 1, 1) := by decide +kernel
theorem dX3_add_15 : decode cX3_add 15 = .ok (.invokestatic 23, 3) := by decide +kernel
theorem dX3_add_18 : decode cX3_add 18 = .ok (.aload_n 0, 1) := by decide +kernel
theorem dX3_add_19 : decode cX3_add 19 = .ok (.getfield 9, 3) := by decide +kernel
theorem dX3_add_22 : decode cX3_add 22 = .ok (.iload 4, 2) := by decide +kernel
theorem dX3_add_24 : decode cX3_add 24 = .ok (.iconst 1, 1) := by decide +kernel
theorem dX3_add_25 : decode cX3_add 25 = .ok (.iadd, 1) := by decide +kernel
theorem dX3_add_26 : decode cX3_add 26 = .ok (.iload_n 2, 1) := by decide +kernel
theorem dX3_add_27 : decode cX3_add 27 = .ok (.invokestatic 23, 3) := by decide +kernel
theorem dX3_add_30 : decode cX3_add 30 = .ok (.aload_n 0, 1) := by decide +kernel
theorem dX3_add_31 : decode cX3_add 31 = .ok (.getfield 9, 3) := by decide +kernel
theorem dX3_add_34 : decode cX3_add 34 = .ok (.iload 4, 2) := by decide +kernel
theorem dX3_add_36 : decode cX3_add 36 = .ok (.iconst 2, 1) := by decide +kernel
theorem dX3_add_37 : decode cX3_add 37 = .ok (.iadd, 1) := by decide +kernel
theorem dX3_add_38 : decode cX3_add 38 = .ok (.iload_n 3, 1) := by decide +kernel
theorem dX3_add_39 : decode cX3_add 39 = .ok (.invokestatic 23, 3) := by decide +kernel
theorem dX3_add_42 : decode cX3_add 42 = .ok (.iload_n 1, 1) := by decide +kernel
theorem dX3_add_43 : decode cX3_add 43 = .ok (.iconst 2, 1) := by decide +kernel
theorem dX3_add_44 : decode cX3_add 44 = .ok (.if_icmp .ne 13, 3) := by decide +kernel
theorem dX3_add_47 : decode cX3_add 47 = .ok (.aload_n 0, 1) := by decide +kernel
theorem dX3_add_48 : decode cX3_add 48 = .ok (.dup, 1) := by decide +kernel
theorem dX3_add_49 : decode cX3_add 49 = .ok (.getfield 27, 3) := by decide +kernel
theorem dX3_add_52 : decode cX3_add 52 = .ok (.iconst 1, 1) := by decide +kernel
theorem dX3_add_53 : decode cX3_add 53 = .ok (.iadd, 1) := by decide +kernel
theorem dX3_add_54 : decode cX3_add 54 = .ok (.putfield 27, 3) := by decide +kernel
theorem dX3_add_57 : decode cX3_add 57 = .ok (.aload_n 0, 1) := by decide +kernel
theorem dX3_add_58 : decode cX3_add 58 = .ok (.dup, 1) := by decide +kernel
theorem dX3_add_59 : decode cX3_add 59 = .ok (.getfield 19, 3) := by decide +kernel
theorem dX3_add_62 : decode cX3_add 62 = .ok (.dup_x1, 1) := by decide +kernel
theorem dX3_add_63 : decode cX3_add 63 = .ok (.iconst 1, 1) := by decide +kernel
theorem dX3_add_64 : decode cX3_add 64 = .ok (.iadd, 1) := by decide +kernel
theorem dX3_add_65 : decode cX3_add 65 = .ok (.putfield 19, 3) := by decide +kernel
theorem dX3_add_68 : decode cX3_add 68 = .ok (.ireturn, 1) := by decide +kernel
theorem dX3_knows_0 : decode cX3_knows 0 = .ok (.iload_n 1, 1) := by decide +kernel
theorem dX3_knows_1 : decode cX3_knows 1 = .ok (.aload_n 0, 1) := by decide +kernel
theorem dX3_knows_2 : decode cX3_knows 2 = .ok (.getfield 19, 3) := by decide +kernel
theorem dX3_knows_5 : decode cX3_knows 5 = .ok (.invokestatic 30, 3) := by decide +kernel
theorem dX3_knows_8 : decode cX3_knows 8 = .ok (.ireturn, 1) := by decide +kernel
theorem dX3_named_0 : decode cX3_named 0 = .ok (.aload_n 0, 1) := by decide +kernel
theorem dX3_named_1 : decode cX3_named 1 = .ok (.iload_n 1, 1) := by decide +kernel
theorem dX3_named_2 : decode cX3_named 2 = .ok (.invokevirtual 34, 3) := by decide +kernel
theorem dX3_named_5 : decode cX3_named 5 = .ok (.ifCond .eq 16, 3) := by decide +kernel
theorem dX3_named_8 : decode cX3_named 8 = .ok (.aload_n 0, 1) := by decide +kernel
theorem dX3_named_9 : decode cX3_named 9 = .ok (.iload_n 1, 1) := by decide +kernel
theorem dX3_named_10 : decode cX3_named 10 = .ok (.invokevirtual 38, 3) := by decide +kernel
theorem dX3_named_13 : decode cX3_named 13 = .ok (.iconst 2, 1) := by decide +kernel
theorem dX3_named_14 : decode cX3_named 14 = .ok (.if_icmp .gt 7, 3) := by decide +kernel
theorem dX3_named_17 : decode cX3_named 17 = .ok (.iconst 1, 1) := by decide +kernel
theorem dX3_named_18 : decode cX3_named 18 = .ok (.goto 4, 3) := by decide +kernel
theorem dX3_named_21 : decode cX3_named 21 = .ok (.iconst 0, 1) := by decide +kernel
theorem dX3_named_22 : decode cX3_named 22 = .ok (.ireturn, 1) := by decide +kernel
theorem dX3_seed_0 : decode cX3_seed 0 = .ok (.iload_n 1, 1) := by decide +kernel
theorem dX3_seed_1 : decode cX3_seed 1 = .ok (.ifCond .eq 12, 3) := by decide +kernel
theorem dX3_seed_4 : decode cX3_seed 4 = .ok (.aload_n 0, 1) := by decide +kernel
theorem dX3_seed_5 : decode cX3_seed 5 = .ok (.iload_n 1, 1) := by decide +kernel
theorem dX3_seed_6 : decode cX3_seed 6 = .ok (.invokevirtual 38, 3) := by decide +kernel
theorem dX3_seed_9 : decode cX3_seed 9 = .ok (.iconst 2, 1) := by decide +kernel
theorem dX3_seed_10 : decode cX3_seed 10 = .ok (.if_icmp .ne 7, 3) := by decide +kernel
theorem dX3_seed_13 : decode cX3_seed 13 = .ok (.iconst 1, 1) := by decide +kernel
theorem dX3_seed_14 : decode cX3_seed 14 = .ok (.goto 4, 3) := by decide +kernel
theorem dX3_seed_17 : decode cX3_seed 17 = .ok (.iconst 0, 1) := by decide +kernel
theorem dX3_seed_18 : decode cX3_seed 18 = .ok (.ireturn, 1) := by decide +kernel
theorem dX3_part_0 : decode cX3_part 0 = .ok (.aload_n 0, 1) := by decide +kernel
theorem dX3_part_1 : decode cX3_part 1 = .ok (.getfield 9, 3) := by decide +kernel
theorem dX3_part_4 : decode cX3_part 4 = .ok (.iload_n 1, 1) := by decide +kernel
theorem dX3_part_5 : decode cX3_part 5 = .ok (.iconst 3, 1) := by decide +kernel
theorem dX3_part_6 : decode cX3_part 6 = .ok (.imul, 1) := by decide +kernel
theorem dX3_part_7 : decode cX3_part 7 = .ok (.iload_n 2, 1) := by decide +kernel
theorem dX3_part_8 : decode cX3_part 8 = .ok (.iadd, 1) := by decide +kernel
theorem dX3_part_9 : decode cX3_part 9 = .ok (.invokestatic 42, 3) := by decide +kernel
theorem dX3_part_12 : decode cX3_part 12 = .ok (.ireturn, 1) := by decide +kernel
theorem dX3_sort_0 : decode cX3_sort 0 = .ok (.aload_n 0, 1) := by decide +kernel
theorem dX3_sort_1 : decode cX3_sort 1 = .ok (.iload_n 1, 1) := by decide +kernel
theorem dX3_sort_2 : decode cX3_sort 2 = .ok (.iconst 0, 1) := by decide +kernel
theorem dX3_sort_3 : decode cX3_sort 3 = .ok (.invokevirtual 46, 3) := by decide +kernel
theorem dX3_sort_6 : decode cX3_sort 6 = .ok (.ireturn, 1) := by decide +kernel
theorem dX3_first_0 : decode cX3_first 0 = .ok (.aload_n 0, 1) := by decide +kernel
theorem dX3_first_1 : decode cX3_first 1 = .ok (.iload_n 1, 1) := by decide +kernel
theorem dX3_first_2 : decode cX3_first 2 = .ok (.iconst 1, 1) := by decide +kernel
theorem dX3_first_3 : decode cX3_first 3 = .ok (.invokevirtual 46, 3) := by decide +kernel
theorem dX3_first_6 : decode cX3_first 6 = .ok (.ireturn, 1) := by decide +kernel
theorem dX3_second_0 : decode cX3_second 0 = .ok (.aload_n 0, 1) := by decide +kernel
theorem dX3_second_1 : decode cX3_second 1 = .ok (.iload_n 1, 1) := by decide +kernel
theorem dX3_second_2 : decode cX3_second 2 = .ok (.iconst 2, 1) := by decide +kernel
theorem dX3_second_3 : decode cX3_second 3 = .ok (.invokevirtual 46, 3) := by decide +kernel
theorem dX3_second_6 : decode cX3_second 6 = .ok (.ireturn, 1) := by decide +kernel
theorem dX3_find_0 : decode cX3_find 0 = .ok (.iconst 0, 1) := by decide +kernel
theorem dX3_find_1 : decode cX3_find 1 = .ok (.istore 4, 2) := by decide +kernel
theorem dX3_find_3 : decode cX3_find 3 = .ok (.iload 4, 2) := by decide +kernel
theorem dX3_find_5 : decode cX3_find 5 = .ok (.aload_n 0, 1) := by decide +kernel
theorem dX3_find_6 : decode cX3_find 6 = .ok (.getfield 19, 3) := by decide +kernel
theorem dX3_find_9 : decode cX3_find 9 = .ok (.if_icmp .ge 42, 3) := by decide +kernel
theorem dX3_find_12 : decode cX3_find 12 = .ok (.aload_n 0, 1) := by decide +kernel
theorem dX3_find_13 : decode cX3_find 13 = .ok (.iload 4, 2) := by decide +kernel
theorem dX3_find_15 : decode cX3_find 15 = .ok (.invokevirtual 38, 3) := by decide +kernel
theorem dX3_find_18 : decode cX3_find 18 = .ok (.iload_n 1, 1) := by decide +kernel
theorem dX3_find_19 : decode cX3_find 19 = .ok (.if_icmp .ne 26, 3) := by decide +kernel
theorem dX3_find_22 : decode cX3_find 22 = .ok (.aload_n 0, 1) := by decide +kernel
theorem dX3_find_23 : decode cX3_find 23 = .ok (.iload 4, 2) := by decide +kernel
theorem dX3_find_25 : decode cX3_find 25 = .ok (.invokevirtual 50, 3) := by decide +kernel
theorem dX3_find_28 : decode cX3_find 28 = .ok (.iload_n 2, 1) := by decide +kernel
theorem dX3_find_29 : decode cX3_find 29 = .ok (.if_icmp .ne 16, 3) := by decide +kernel
theorem dX3_find_32 : decode cX3_find 32 = .ok (.aload_n 0, 1) := by decide +kernel
theorem dX3_find_33 : decode cX3_find 33 = .ok (.iload 4, 2) := by decide +kernel
theorem dX3_find_35 : decode cX3_find 35 = .ok (.invokevirtual 53, 3) := by decide +kernel
theorem dX3_find_38 : decode cX3_find 38 = .ok (.iload_n 3, 1) := by decide +kernel
theorem dX3_find_39 : decode cX3_find 39 = .ok (.if_icmp .ne 6, 3) := by decide +kernel
theorem dX3_find_42 : decode cX3_find 42 = .ok (.iload 4, 2) := by decide +kernel
theorem dX3_find_44 : decode cX3_find 44 = .ok (.ireturn, 1) := by decide +kernel
theorem dX3_find_45 : decode cX3_find 45 = .ok (.iinc 4 1, 3) := by decide +kernel
theorem dX3_find_48 : decode cX3_find 48 = .ok (.goto (-45), 3) := by decide +kernel
theorem dX3_find_51 : decode cX3_find 51 = .ok (.iconst (-1), 1) := by decide +kernel
theorem dX3_find_52 : decode cX3_find 52 = .ok (.ireturn, 1) := by decide +kernel
theorem dX4_init_0 : decode cX4_init 0 = .ok (.aload_n 0, 1) := by decide +kernel
theorem dX4_init_1 : decode cX4_init 1 = .ok (.invokespecial 3, 3) := by decide +kernel
theorem dX4_init_4 : decode cX4_init 4 = .ok (.aload_n 0, 1) := by decide +kernel
theorem dX4_init_5 : decode cX4_init 5 = .ok (.bipush 16, 2) := by decide +kernel
theorem dX4_init_7 : decode cX4_init 7 = .ok (.newarray .int, 2) := by decide +kernel
theorem dX4_init_9 : decode cX4_init 9 = .ok (.putfield 9, 3) := by decide +kernel
theorem dX4_init_12 : decode cX4_init 12 = .ok (.aload_n 0, 1) := by decide +kernel
theorem dX4_init_13 : decode cX4_init 13 = .ok (.bipush 64, 2) := by decide +kernel
theorem dX4_init_15 : decode cX4_init 15 = .ok (.newarray .int, 2) := by decide +kernel
theorem dX4_init_17 : decode cX4_init 17 = .ok (.putfield 15, 3) := by decide +kernel
theorem dX4_init_20 : decode cX4_init 20 = .ok (.return_, 1) := by decide +kernel
theorem dX4_learn_0 : decode cX4_learn 0 = .ok (.aload_n 0, 1) := by decide +kernel
theorem dX4_learn_1 : decode cX4_learn 1 = .ok (.getfield 9, 3) := by decide +kernel
theorem dX4_learn_4 : decode cX4_learn 4 = .ok (.iconst 0, 1) := by decide +kernel
theorem dX4_learn_5 : decode cX4_learn 5 = .ok (.invokestatic 18, 3) := by decide +kernel
theorem dX4_learn_8 : decode cX4_learn 8 = .ok (.iconst 0, 1) := by decide +kernel
theorem dX4_learn_9 : decode cX4_learn 9 = .ok (.istore_n 2, 1) := by decide +kernel
theorem dX4_learn_10 : decode cX4_learn 10 = .ok (.iload_n 2, 1) := by decide +kernel
theorem dX4_learn_11 : decode cX4_learn 11 = .ok (.iconst 4, 1) := by decide +kernel
theorem dX4_learn_12 : decode cX4_learn 12 = .ok (.if_icmp .ge 22, 3) := by decide +kernel
theorem dX4_learn_15 : decode cX4_learn 15 = .ok (.aload_n 0, 1) := by decide +kernel
theorem dX4_learn_16 : decode cX4_learn 16 = .ok (.getfield 9, 3) := by decide +kernel
theorem dX4_learn_19 : decode cX4_learn 19 = .ok (.iload_n 2, 1) := by decide +kernel
theorem dX4_learn_20 : decode cX4_learn 20 = .ok (.iconst 4, 1) := by decide +kernel
theorem dX4_learn_21 : decode cX4_learn 21 = .ok (.imul, 1) := by decide +kernel
theorem dX4_learn_22 : decode cX4_learn 22 = .ok (.iload_n 2, 1) := by decide +kernel
theorem dX4_learn_23 : decode cX4_learn 23 = .ok (.iadd, 1) := by decide +kernel
theorem dX4_learn_24 : decode cX4_learn 24 = .ok (.iconst 1, 1) := by decide +kernel
theorem dX4_learn_25 : decode cX4_learn 25 = .ok (.invokestatic 22, 3) := by decide +kernel
theorem dX4_learn_28 : decode cX4_learn 28 = .ok (.iinc 2 1, 3) := by decide +kernel
theorem dX4_learn_31 : decode cX4_learn 31 = .ok (.goto (-21), 3) := by decide +kernel
theorem dX4_learn_34 : decode cX4_learn 34 = .ok (.iconst 0, 1) := by decide +kernel
theorem dX4_learn_35 : decode cX4_learn 35 = .ok (.istore_n 2, 1) := by decide +kernel
theorem dX4_learn_36 : decode cX4_learn 36 = .ok (.iload_n 2, 1) := by decide +kernel
theorem dX4_learn_37 : decode cX4_learn 37 = .ok (.aload_n 1, 1) := by decide +kernel
theorem dX4_learn_38 : decode cX4_learn 38 = .ok (.getfield 26, 3) := by decide +kernel
theorem dX4_learn_41 : decode cX4_learn 41 = .ok (.if_icmp .ge 41, 3) := by decide +kernel
theorem dX4_learn_44 : decode cX4_learn 44 = .ok (.aload_n 1, 1) := by decide +kernel
theorem dX4_learn_45 : decode cX4_learn 45 = .ok (.iload_n 2, 1) := by decide +kernel
theorem dX4_learn_46 : decode cX4_learn 46 = .ok (.iconst 1, 1) := by decide +kernel
theorem dX4_learn_47 : decode cX4_learn 47 = .ok (.invokevirtual 32, 3) := by decide +kernel
theorem dX4_learn_50 : decode cX4_learn 50 = .ok (.ifCond .eq 26, 3) := by decide +kernel
theorem dX4_learn_53 : decode cX4_learn 53 = .ok (.aload_n 0, 1) := by decide +kernel
theorem dX4_learn_54 : decode cX4_learn 54 = .ok (.getfield 9, 3) := by decide +kernel
theorem dX4_learn_57 : decode cX4_learn 57 = .ok (.aload_n 1, 1) := by decide +kernel
theorem dX4_learn_58 : decode cX4_learn 58 = .ok (.iload_n 2, 1) := by decide +kernel
theorem dX4_learn_59 : decode cX4_learn 59 = .ok (.iconst 1, 1) := by decide +kernel
theorem dX4_learn_60 : decode cX4_learn 60 = .ok (.invokevirtual 36, 3) := by decide +kernel
theorem dX4_learn_63 : decode cX4_learn 63 = .ok (.iconst 4, 1) := by decide +kernel
theorem dX4_learn_64 : decode cX4_learn 64 = .ok (.imul, 1) := by decide +kernel
theorem dX4_learn_65 : decode cX4_learn 65 = .ok (.aload_n 1, 1) := by decide +kernel
theorem dX4_learn_66 : decode cX4_learn 66 = .ok (.iload_n 2, 1) := by decide +kernel
theorem dX4_learn_67 : decode cX4_learn 67 = .ok (.iconst 2, 1) := by decide +kernel
theorem dX4_learn_68 : decode cX4_learn 68 = .ok (.invokevirtual 36, 3) := by decide +kernel
theorem dX4_learn_71 : decode cX4_learn 71 = .ok (.iadd, 1) := by decide +kernel
theorem dX4_learn_72 : decode cX4_learn 72 = .ok (.iconst 1, 1) := by decide +kernel
theorem dX4_learn_73 : decode cX4_learn 73 = .ok (.invokestatic 22, 3) := by decide +kernel
theorem dX4_learn_76 : decode cX4_learn 76 = .ok (.iinc 2 1, 3) := by decide +kernel
theorem dX4_learn_79 : decode cX4_learn 79 = .ok (.goto (-43), 3) := by decide +kernel
theorem dX4_learn_82 : decode cX4_learn 82 = .ok (.iconst 0, 1) := by decide +kernel
theorem dX4_learn_83 : decode cX4_learn 83 = .ok (.istore_n 2, 1) := by decide +kernel
theorem dX4_learn_84 : decode cX4_learn 84 = .ok (.iload_n 2, 1) := by decide +kernel
theorem dX4_learn_85 : decode cX4_learn 85 = .ok (.iconst 4, 1) := by decide +kernel
theorem dX4_learn_86 : decode cX4_learn 86 = .ok (.if_icmp .ge 14, 3) := by decide +kernel
theorem dX4_learn_89 : decode cX4_learn 89 = .ok (.aload_n 0, 1) := by decide +kernel
theorem dX4_learn_90 : decode cX4_learn 90 = .ok (.iload_n 2, 1) := by decide +kernel
theorem dX4_learn_91 : decode cX4_learn 91 = .ok (.invokevirtual 40, 3) := by decide +kernel
theorem dX4_learn_94 : decode cX4_learn 94 = .ok (.iinc 2 1, 3) := by decide +kernel
theorem dX4_learn_97 : decode cX4_learn 97 = .ok (.goto (-13), 3) := by decide +kernel
theorem dX4_learn_100 : decode cX4_learn 100 = .ok (.aload_n 0, 1) := by decide +kernel
theorem dX4_learn_101 : decode cX4_learn 101 = .ok (.getfield 15, 3) := by decide +kernel
theorem dX4_learn_104 : decode cX4_learn 104 = .ok (.iconst (-1), 1) := by decide +kernel
theorem dX4_learn_105 : decode cX4_learn 105 = .ok (.invokestatic 18, 3) := by decide +kernel
theorem dX4_learn_108 : decode cX4_learn 108 = .ok (.iconst 0, 1) := by decide +kernel
theorem dX4_learn_109 : decode cX4_learn 109 = .ok (.istore_n 2, 1) := by decide +kernel
theorem dX4_learn_110 : decode cX4_learn 110 = .ok (.iload_n 2, 1) := by decide +kernel
theorem dX4_learn_111 : decode cX4_learn 111 = .ok (.aload_n 1, 1) := by decide +kernel
theorem dX4_learn_112 : decode cX4_learn 112 = .ok (.getfield 26, 3) := by decide +kernel
theorem dX4_learn_115 : decode cX4_learn 115 = .ok (.if_icmp .ge 41, 3) := by decide +kernel
theorem dX4_learn_118 : decode cX4_learn 118 = .ok (.aload_n 1, 1) := by decide +kernel
theorem dX4_learn_119 : decode cX4_learn 119 = .ok (.iload_n 2, 1) := by decide +kernel
theorem dX4_learn_120 : decode cX4_learn 120 = .ok (.iconst 2, 1) := by decide +kernel
theorem dX4_learn_121 : decode cX4_learn 121 = .ok (.invokevirtual 32, 3) := by decide +kernel
theorem dX4_learn_124 : decode cX4_learn 124 = .ok (.ifCond .eq 26, 3) := by decide +kernel
theorem dX4_learn_127 : decode cX4_learn 127 = .ok (.aload_n 0, 1) := by decide +kernel
theorem dX4_learn_128 : decode cX4_learn 128 = .ok (.iload_n 2, 1) := by decide +kernel
theorem dX4_learn_129 : decode cX4_learn 129 = .ok (.aload_n 1, 1) := by decide +kernel
theorem dX4_learn_130 : decode cX4_learn 130 = .ok (.iload_n 2, 1) := by decide +kernel
theorem dX4_learn_131 : decode cX4_learn 131 = .ok (.iconst 1, 1) := by decide +kernel
theorem dX4_learn_132 : decode cX4_learn 132 = .ok (.invokevirtual 36, 3) := by decide +kernel
theorem dX4_learn_135 : decode cX4_learn 135 = .ok (.aload_n 1, 1) := by decide +kernel
theorem dX4_learn_136 : decode cX4_learn 136 = .ok (.iload_n 2, 1) := by decide +kernel
theorem dX4_learn_137 : decode cX4_learn 137 = .ok (.iconst 2, 1) := by decide +kernel
theorem dX4_learn_138 : decode cX4_learn 138 = .ok (.invokevirtual 36, 3) := by decide +kernel
theorem dX4_learn_141 : decode cX4_learn 141 = .ok (.aload_n 1, 1) := by decide +kernel
theorem dX4_learn_142 : decode cX4_learn 142 = .ok (.iload_n 2, 1) := by decide +kernel
theorem dX4_learn_143 : decode cX4_learn 143 = .ok (.iconst 3, 1) := by decide +kernel
theorem dX4_learn_144 : decode cX4_learn 144 = .ok (.invokevirtual 36, 3) := by decide +kernel
theorem dX4_learn_147 : decode cX4_learn 147 = .ok (.invokevirtual 44, 3) := by decide +kernel
theorem dX4_learn_150 : decode cX4_learn 150 = .ok (.iinc 2 1, 3) := by decide +kernel
theorem dX4_learn_153 : decode cX4_learn 153 = .ok (.goto (-43), 3) := by decide +kernel
theorem dX4_learn_156 : decode cX4_learn 156 = .ok (.return_, 1) := by decide +kernel
theorem dX4_goesUnder_0 : decode cX4_goesUnder 0 = .ok (.aload_n 0, 1) := by decide +kernel
theorem dX4_goesUnder_1 : decode cX4_goesUnder 1 = .ok (.getfield 9, 3) := by decide +kernel
theorem dX4_goesUnder_4 : decode cX4_goesUnder 4 = .ok (.iload_n 1, 1) := by decide +kernel
theorem dX4_goesUnder_5 : decode cX4_goesUnder 5 = .ok (.iconst 4, 1) := by decide +kernel
theorem dX4_goesUnder_6 : decode cX4_goesUnder 6 = .ok (.imul, 1) := by decide +kernel
theorem dX4_goesUnder_7 : decode cX4_goesUnder 7 = .ok (.iload_n 2, 1) := by decide +kernel
theorem dX4_goesUnder_8 : decode cX4_goesUnder 8 = .ok (.iadd, 1) := by decide +kernel
theorem dX4_goesUnder_9 : decode cX4_goesUnder 9 = .ok (.invokestatic 48, 3) := by decide +kernel
theorem dX4_goesUnder_12 : decode cX4_goesUnder 12 = .ok (.iconst 1, 1) := by decide +kernel
theorem dX4_goesUnder_13 : decode cX4_goesUnder 13 = .ok (.if_icmp .ne 7, 3) := by decide +kernel
theorem dX4_goesUnder_16 : decode cX4_goesUnder 16 = .ok (.iconst 1, 1) := by decide +kernel
theorem dX4_goesUnder_17 : decode cX4_goesUnder 17 = .ok (.goto 4, 3) := by decide +kernel
theorem dX4_goesUnder_20 : decode cX4_goesUnder 20 = .ok (.iconst 0, 1) := by decide +kernel
theorem dX4_goesUnder_21 : decode cX4_goesUnder 21 = .ok (.ireturn, 1) := by decide +kernel
theorem dX4_axiomOfChain_0 : decode cX4_axiomOfChain 0 = .ok (.aload_n 0, 1) := by decide +kernel
theorem dX4_axiomOfChain_1 : decode cX4_axiomOfChain 1 = .ok (.getfield 15, 3) := by decide +kernel
theorem dX4_axiomOfChain_4 : decode cX4_axiomOfChain 4 = .ok (.iload_n 1, 1) := by decide +kernel
theorem dX4_axiomOfChain_5 : decode cX4_axiomOfChain 5 = .ok (.iload_n 2, 1) := by decide +kernel
theorem dX4_axiomOfChain_6 : decode cX4_axiomOfChain 6 = .ok (.iload_n 3, 1) := by decide +kernel
theorem dX4_axiomOfChain_7 : decode cX4_axiomOfChain 7 = .ok (.invokestatic 52, 3) := by decide +kernel
theorem dX4_axiomOfChain_10 : decode cX4_axiomOfChain 10 = .ok (.invokestatic 48, 3) := by decide +kernel
theorem dX4_axiomOfChain_13 : decode cX4_axiomOfChain 13 = .ok (.ireturn, 1) := by decide +kernel
theorem dX4_joinThrough_0 : decode cX4_joinThrough 0 = .ok (.iconst 0, 1) := by decide +kernel
theorem dX4_joinThrough_1 : decode cX4_joinThrough 1 = .ok (.istore_n 2, 1) := by decide +kernel
theorem dX4_joinThrough_2 : decode cX4_joinThrough 2 = .ok (.iload_n 2, 1) := by decide +kernel
theorem dX4_joinThrough_3 : decode cX4_joinThrough 3 = .ok (.iconst 4, 1) := by decide +kernel
theorem dX4_joinThrough_4 : decode cX4_joinThrough 4 = .ok (.if_icmp .ge 53, 3) := by decide +kernel
theorem dX4_joinThrough_7 : decode cX4_joinThrough 7 = .ok (.iconst 0, 1) := by decide +kernel
theorem dX4_joinThrough_8 : decode cX4_joinThrough 8 = .ok (.istore_n 3, 1) := by decide +kernel
theorem dX4_joinThrough_9 : decode cX4_joinThrough 9 = .ok (.iload_n 3, 1) := by decide +kernel
theorem dX4_joinThrough_10 : decode cX4_joinThrough 10 = .ok (.iconst 4, 1) := by decide +kernel
theorem dX4_joinThrough_11 : decode cX4_joinThrough 11 = .ok (.if_icmp .ge 40, 3) := by decide +kernel
theorem dX4_joinThrough_14 : decode cX4_joinThrough 14 = .ok (.aload_n 0, 1) := by decide +kernel
theorem dX4_joinThrough_15 : decode cX4_joinThrough 15 = .ok (.iload_n 2, 1) := by decide +kernel
theorem dX4_joinThrough_16 : decode cX4_joinThrough 16 = .ok (.iload_n 1, 1) := by decide +kernel
theorem dX4_joinThrough_17 : decode cX4_joinThrough 17 = .ok (.invokevirtual 56, 3) := by decide +kernel
theorem dX4_joinThrough_20 : decode cX4_joinThrough 20 = .ok (.ifCond .eq 25, 3) := by decide +kernel
theorem dX4_joinThrough_23 : decode cX4_joinThrough 23 = .ok (.aload_n 0, 1) := by decide +kernel
theorem dX4_joinThrough_24 : decode cX4_joinThrough 24 = .ok (.iload_n 1, 1) := by decide +kernel
theorem dX4_joinThrough_25 : decode cX4_joinThrough 25 = .ok (.iload_n 3, 1) := by decide +kernel
theorem dX4_joinThrough_26 : decode cX4_joinThrough 26 = .ok (.invokevirtual 56, 3) := by decide +kernel
theorem dX4_joinThrough_29 : decode cX4_joinThrough 29 = .ok (.ifCond .eq 16, 3) := by decide +kernel
theorem dX4_joinThrough_32 : decode cX4_joinThrough 32 = .ok (.aload_n 0, 1) := by decide +kernel
theorem dX4_joinThrough_33 : decode cX4_joinThrough 33 = .ok (.getfield 9, 3) := by decide +kernel
theorem dX4_joinThrough_36 : decode cX4_joinThrough 36 = .ok (.iload_n 2, 1) := by decide +kernel
theorem dX4_joinThrough_37 : decode cX4_joinThrough 37 = .ok (.iconst 4, 1) := by decide +kernel
theorem dX4_joinThrough_38 : decode cX4_joinThrough 38 = .ok (.imul, 1) := by decide +kernel
theorem dX4_joinThrough_39 : decode cX4_joinThrough 39 = .ok (.iload_n 3, 1) := by decide +kernel
theorem dX4_joinThrough_40 : decode cX4_joinThrough 40 = .ok (.iadd, 1) := by decide +kernel
theorem dX4_joinThrough_41 : decode cX4_joinThrough 41 = .ok (.iconst 1, 1) := by decide +kernel
theorem dX4_joinThrough_42 : decode cX4_joinThrough 42 = .ok (.invokestatic 22, 3) := by decide +kernel
theorem dX4_joinThrough_45 : decode cX4_joinThrough 45 = .ok (.iinc 3 1, 3) := by decide +kernel
theorem dX4_joinThrough_48 : decode cX4_joinThrough 48 = .ok (.goto (-39), 3) := by decide +kernel
theorem dX4_joinThrough_51 : decode cX4_joinThrough 51 = .ok (.iinc 2 1, 3) := by decide +kernel
theorem dX4_joinThrough_54 : decode cX4_joinThrough 54 = .ok (.goto (-52), 3) := by decide +kernel
theorem dX4_joinThrough_57 : decode cX4_joinThrough 57 = .ok (.return_, 1) := by decide +kernel
theorem dX4_learnChain_0 : decode cX4_learnChain 0 = .ok (.iconst 0, 1) := by decide +kernel
theorem dX4_learnChain_1 : decode cX4_learnChain 1 = .ok (.istore 5, 2) := by decide +kernel
theorem dX4_learnChain_3 : decode cX4_learnChain 3 = .ok (.iload 5, 2) := by decide +kernel
theorem dX4_learnChain_5 : decode cX4_learnChain 5 = .ok (.iconst 4, 1) := by decide +kernel
theorem dX4_learnChain_6 : decode cX4_learnChain 6 = .ok (.if_icmp .ge 75, 3) := by decide +kernel
theorem dX4_learnChain_9 : decode cX4_learnChain 9 = .ok (.iconst 0, 1) := by decide +kernel
theorem dX4_learnChain_10 : decode cX4_learnChain 10 = .ok (.istore 6, 2) := by decide +kernel
theorem dX4_learnChain_12 : decode cX4_learnChain 12 = .ok (.iload 6, 2) := by decide +kernel
theorem dX4_learnChain_14 : decode cX4_learnChain 14 = .ok (.iconst 4, 1) := by decide +kernel
theorem dX4_learnChain_15 : decode cX4_learnChain 15 = .ok (.if_icmp .ge 60, 3) := by decide +kernel
theorem dX4_learnChain_18 : decode cX4_learnChain 18 = .ok (.aload_n 0, 1) := by decide +kernel
theorem dX4_learnChain_19 : decode cX4_learnChain 19 = .ok (.iload 5, 2) := by decide +kernel
theorem dX4_learnChain_21 : decode cX4_learnChain 21 = .ok (.iload_n 2, 1) := by decide +kernel
theorem dX4_learnChain_22 : decode cX4_learnChain 22 = .ok (.invokevirtual 56, 3) := by decide +kernel
theorem dX4_learnChain_25 : decode cX4_learnChain 25 = .ok (.ifCond .eq 44, 3) := by decide +kernel
theorem dX4_learnChain_28 : decode cX4_learnChain 28 = .ok (.aload_n 0, 1) := by decide +kernel
theorem dX4_learnChain_29 : decode cX4_learnChain 29 = .ok (.iload 6, 2) := by decide +kernel
theorem dX4_learnChain_31 : decode cX4_learnChain 31 = .ok (.iload_n 3, 1) := by decide +kernel
theorem dX4_learnChain_32 : decode cX4_learnChain 32 = .ok (.invokevirtual 56, 3) := by decide +kernel
theorem dX4_learnChain_35 : decode cX4_learnChain 35 = .ok (.ifCond .eq 34, 3) := by decide +kernel
theorem dX4_learnChain_38 : decode cX4_learnChain 38 = .ok (.aload_n 0, 1) := by decide +kernel
theorem dX4_learnChain_39 : decode cX4_learnChain 39 = .ok (.iload 5, 2) := by decide +kernel
theorem dX4_learnChain_41 : decode cX4_learnChain 41 = .ok (.iload 6, 2) := by decide +kernel
theorem dX4_learnChain_43 : decode cX4_learnChain 43 = .ok (.iload 4, 2) := by decide +kernel
theorem dX4_learnChain_45 : decode cX4_learnChain 45 = .ok (.invokevirtual 59, 3) := by decide +kernel
theorem dX4_learnChain_48 : decode cX4_learnChain 48 = .ok (.iconst (-1), 1) := by decide +kernel
theorem dX4_learnChain_49 : decode cX4_learnChain 49 = .ok (.if_icmp .ne 20, 3) := by decide +kernel
theorem dX4_learnChain_52 : decode cX4_learnChain 52 = .ok (.aload_n 0, 1) := by decide +kernel
theorem dX4_learnChain_53 : decode cX4_learnChain 53 = .ok (.getfield 15, 3) := by decide +kernel
theorem dX4_learnChain_56 : decode cX4_learnChain 56 = .ok (.iload 5, 2) := by decide +kernel
theorem dX4_learnChain_58 : decode cX4_learnChain 58 = .ok (.iload 6, 2) := by decide +kernel
theorem dX4_learnChain_60 : decode cX4_learnChain 60 = .ok (.iload 4, 2) := by decide +kernel
theorem dX4_learnChain_62 : decode cX4_learnChain 62 = .ok (.invokestatic 52, 3) := by decide +kernel
theorem dX4_learnChain_65 : decode cX4_learnChain 65 = .ok (.iload_n 1, 1) := by decide +kernel
theorem dX4_learnChain_66 : decode cX4_learnChain 66 = .ok (.invokestatic 22, 3) := by decide +kernel
theorem dX4_learnChain_69 : decode cX4_learnChain 69 = .ok (.iinc 6 1, 3) := by decide +kernel
theorem dX4_learnChain_72 : decode cX4_learnChain 72 = .ok (.goto (-60), 3) := by decide +kernel
theorem dX4_learnChain_75 : decode cX4_learnChain 75 = .ok (.iinc 5 1, 3) := by decide +kernel
theorem dX4_learnChain_78 : decode cX4_learnChain 78 = .ok (.goto (-75), 3) := by decide +kernel
theorem dX4_learnChain_81 : decode cX4_learnChain 81 = .ok (.return_, 1) := by decide +kernel
theorem dX4_placeOfChain_0 : decode cX4_placeOfChain 0 = .ok (.iload_n 0, 1) := by decide +kernel
theorem dX4_placeOfChain_1 : decode cX4_placeOfChain 1 = .ok (.iconst 4, 1) := by decide +kernel
theorem dX4_placeOfChain_2 : decode cX4_placeOfChain 2 = .ok (.imul, 1) := by decide +kernel
theorem dX4_placeOfChain_3 : decode cX4_placeOfChain 3 = .ok (.iload_n 1, 1) := by decide +kernel
theorem dX4_placeOfChain_4 : decode cX4_placeOfChain 4 = .ok (.iadd, 1) := by decide +kernel
theorem dX4_placeOfChain_5 : decode cX4_placeOfChain 5 = .ok (.iconst 4, 1) := by decide +kernel
theorem dX4_placeOfChain_6 : decode cX4_placeOfChain 6 = .ok (.imul, 1) := by decide +kernel
theorem dX4_placeOfChain_7 : decode cX4_placeOfChain 7 = .ok (.iload_n 2, 1) := by decide +kernel
theorem dX4_placeOfChain_8 : decode cX4_placeOfChain 8 = .ok (.iadd, 1) := by decide +kernel
theorem dX4_placeOfChain_9 : decode cX4_placeOfChain 9 = .ok (.ireturn, 1) := by decide +kernel
theorem dX5_init_0 : decode cX5_init 0 = .ok (.aload_n 0, 1) := by decide +kernel
theorem dX5_init_1 : decode cX5_init 1 = .ok (.invokespecial 3, 3) := by decide +kernel
theorem dX5_init_4 : decode cX5_init 4 = .ok (.aload_n 0, 1) := by decide +kernel
theorem dX5_init_5 : decode cX5_init 5 = .ok (.sipush 2000, 3) := by decide +kernel
theorem dX5_init_8 : decode cX5_init 8 = .ok (.newarray .long, 2) := by decide +kernel
theorem dX5_init_10 : decode cX5_init 10 = .ok (.putfield 9, 3) := by decide +kernel
theorem dX5_init_13 : decode cX5_init 13 = .ok (.aload_n 0, 1) := by decide +kernel
theorem dX5_init_14 : decode cX5_init 14 = .ok (.aload_n 1, 1) := by decide +kernel
theorem dX5_init_15 : decode cX5_init 15 = .ok (.putfield 15, 3) := by decide +kernel
theorem dX5_init_18 : decode cX5_init 18 = .ok (.aload_n 0, 1) := by decide +kernel
theorem dX5_init_19 : decode cX5_init 19 = .ok (.aload_n 2, 1) := by decide +kernel
theorem dX5_init_20 : decode cX5_init 20 = .ok (.putfield 19, 3) := by decide +kernel
theorem dX5_init_23 : decode cX5_init 23 = .ok (.aload_n 0, 1) := by decide +kernel
theorem dX5_init_24 : decode cX5_init 24 = .ok (.aload_n 3, 1) := by decide +kernel
theorem dX5_init_25 : decode cX5_init 25 = .ok (.putfield 23, 3) := by decide +kernel
theorem dX5_init_28 : decode cX5_init 28 = .ok (.aload_n 0, 1) := by decide +kernel
theorem dX5_init_29 : decode cX5_init 29 = .ok (.aload 4, 2) := by decide +kernel
theorem dX5_init_31 : decode cX5_init 31 = .ok (.putfield 27, 3) := by decide +kernel
theorem dX5_init_34 : decode cX5_init 34 = .ok (.return_, 1) := by decide +kernel
theorem dX5_concludeAll_0 : decode cX5_concludeAll 0 = .ok (.aload_n 0, 1) := by decide +kernel
theorem dX5_concludeAll_1 : decode cX5_concludeAll 1 = .ok (.getfield 27, 3) := by decide +kernel
theorem dX5_concludeAll_4 : decode cX5_concludeAll 4 = .ok (.invokevirtual 31, 3) := by decide +kernel
theorem dX5_concludeAll_7 : decode cX5_concludeAll 7 = .ok (.aload_n 0, 1) := by decide +kernel
theorem dX5_concludeAll_8 : decode cX5_concludeAll 8 = .ok (.getfield 23, 3) := by decide +kernel
theorem dX5_concludeAll_11 : decode cX5_concludeAll 11 = .ok (.aload_n 0, 1) := by decide +kernel
theorem dX5_concludeAll_12 : decode cX5_concludeAll 12 = .ok (.getfield 19, 3) := by decide +kernel
theorem dX5_concludeAll_15 : decode cX5_concludeAll 15 = .ok (.invokevirtual 36, 3) := by decide +kernel
theorem dX5_concludeAll_18 : decode cX5_concludeAll 18 = .ok (.iconst 1, 1) := by decide +kernel
theorem dX5_concludeAll_19 : decode cX5_concludeAll 19 = .ok (.istore_n 1, 1) := by decide +kernel
theorem dX5_concludeAll_20 : decode cX5_concludeAll 20 = .ok (.iconst 1, 1) := by decide +kernel
theorem dX5_concludeAll_21 : decode cX5_concludeAll 21 = .ok (.istore_n 2, 1) := by decide +kernel
theorem dX5_concludeAll_22 : decode cX5_concludeAll 22 = .ok (.iload_n 2, 1) := by decide +kernel
theorem dX5_concludeAll_23 : decode cX5_concludeAll 23 = .ok (.sipush 2000, 3) := by decide +kernel
theorem dX5_concludeAll_26 : decode cX5_concludeAll 26 = .ok (.if_icmp .gt 51, 3) := by decide +kernel
theorem dX5_concludeAll_29 : decode cX5_concludeAll 29 = .ok (.iload_n 1, 1) := by decide +kernel
theorem dX5_concludeAll_30 : decode cX5_concludeAll 30 = .ok (.ifCond .eq 47, 3) := by decide +kernel
theorem dX5_concludeAll_33 : decode cX5_concludeAll 33 = .ok (.aload_n 0, 1) := by decide +kernel
theorem dX5_concludeAll_34 : decode cX5_concludeAll 34 = .ok (.invokevirtual 42, 3) := by decide +kernel
theorem dX5_concludeAll_37 : decode cX5_concludeAll 37 = .ok (.aload_n 0, 1) := by decide +kernel
theorem dX5_concludeAll_38 : decode cX5_concludeAll 38 = .ok (.invokevirtual 45, 3) := by decide +kernel
theorem dX5_concludeAll_41 : decode cX5_concludeAll 41 = .ok (.iconst 0, 1) := by decide +kernel
theorem dX5_concludeAll_42 : decode cX5_concludeAll 42 = .ok (.istore_n 3, 1) := by decide +kernel
theorem dX5_concludeAll_43 : decode cX5_concludeAll 43 = .ok (.iload_n 3, 1) := by decide +kernel
theorem dX5_concludeAll_44 : decode cX5_concludeAll 44 = .ok (.aload_n 0, 1) := by decide +kernel
theorem dX5_concludeAll_45 : decode cX5_concludeAll 45 = .ok (.getfield 27, 3) := by decide +kernel
theorem dX5_concludeAll_48 : decode cX5_concludeAll 48 = .ok (.getfield 48, 3) := by decide +kernel
theorem dX5_concludeAll_51 : decode cX5_concludeAll 51 = .ok (.if_icmp .ge 14, 3) := by decide +kernel
theorem dX5_concludeAll_54 : decode cX5_concludeAll 54 = .ok (.aload_n 0, 1) := by decide +kernel
theorem dX5_concludeAll_55 : decode cX5_concludeAll 55 = .ok (.iload_n 3, 1) := by decide +kernel
theorem dX5_concludeAll_56 : decode cX5_concludeAll 56 = .ok (.invokevirtual 52, 3) := by decide +kernel
theorem dX5_concludeAll_59 : decode cX5_concludeAll 59 = .ok (.iinc 3 1, 3) := by decide +kernel
theorem dX5_concludeAll_62 : decode cX5_concludeAll 62 = .ok (.goto (-19), 3) := by decide +kernel
theorem dX5_concludeAll_65 : decode cX5_concludeAll 65 = .ok (.aload_n 0, 1) := by decide +kernel
theorem dX5_concludeAll_66 : decode cX5_concludeAll 66 = .ok (.iload_n 2, 1) := by decide +kernel
theorem dX5_concludeAll_67 : decode cX5_concludeAll 67 = .ok (.invokevirtual 56, 3) := by decide +kernel
theorem dX5_concludeAll_70 : decode cX5_concludeAll 70 = .ok (.istore_n 1, 1) := by decide +kernel
theorem dX5_concludeAll_71 : decode cX5_concludeAll 71 = .ok (.iinc 2 1, 3) := by decide +kernel
theorem dX5_concludeAll_74 : decode cX5_concludeAll 74 = .ok (.goto (-52), 3) := by decide +kernel
theorem dX5_concludeAll_77 : decode cX5_concludeAll 77 = .ok (.return_, 1) := by decide +kernel
theorem dX5_clearOffers_0 : decode cX5_clearOffers 0 = .ok (.iconst 0, 1) := by decide +kernel
theorem dX5_clearOffers_1 : decode cX5_clearOffers 1 = .ok (.istore_n 1, 1) := by decide +kernel
theorem dX5_clearOffers_2 : decode cX5_clearOffers 2 = .ok (.iload_n 1, 1) := by decide +kernel
theorem dX5_clearOffers_3 : decode cX5_clearOffers 3 = .ok (.aload_n 0, 1) := by decide +kernel
theorem dX5_clearOffers_4 : decode cX5_clearOffers 4 = .ok (.getfield 9, 3) := by decide +kernel
theorem dX5_clearOffers_7 : decode cX5_clearOffers 7 = .ok (.arraylength, 1) := by decide +kernel
theorem dX5_clearOffers_8 : decode cX5_clearOffers 8 = .ok (.if_icmp .ge 18, 3) := by decide +kernel
theorem dX5_clearOffers_11 : decode cX5_clearOffers 11 = .ok (.aload_n 0, 1) := by decide +kernel
theorem dX5_clearOffers_12 : decode cX5_clearOffers 12 = .ok (.getfield 9, 3) := by decide +kernel
theorem dX5_clearOffers_15 : decode cX5_clearOffers 15 = .ok (.iload_n 1, 1) := by decide +kernel
theorem dX5_clearOffers_16 : decode cX5_clearOffers 16 = .ok (.ldc2_w 60, 3) := by decide +kernel
theorem dX5_clearOffers_19 : decode cX5_clearOffers 19 = .ok (.lastore, 1) := by decide +kernel
theorem dX5_clearOffers_20 : decode cX5_clearOffers 20 = .ok (.iinc 1 1, 3) := by decide +kernel
theorem dX5_clearOffers_23 : decode cX5_clearOffers 23 = .ok (.goto (-21), 3) := by decide +kernel
theorem dX5_clearOffers_26 : decode cX5_clearOffers 26 = .ok (.return_, 1) := by decide +kernel
theorem dX5_addOffered_0 : decode cX5_addOffered 0 = .ok (.aload_n 0, 1) := by decide +kernel
theorem dX5_addOffered_1 : decode cX5_addOffered 1 = .ok (.getfield 27, 3) := by decide +kernel
theorem dX5_addOffered_4 : decode cX5_addOffered 4 = .ok (.getfield 48, 3) := by decide +kernel
theorem dX5_addOffered_7 : decode cX5_addOffered 7 = .ok (.istore_n 2, 1) := by decide +kernel
theorem dX5_addOffered_8 : decode cX5_addOffered 8 = .ok (.iconst 0, 1) := by decide +kernel
theorem dX5_addOffered_9 : decode cX5_addOffered 9 = .ok (.istore_n 3, 1) := by decide +kernel
theorem dX5_addOffered_10 : decode cX5_addOffered 10 = .ok (.iload_n 3, 1) := by decide +kernel
theorem dX5_addOffered_11 : decode cX5_addOffered 11 = .ok (.aload_n 0, 1) := by decide +kernel
theorem dX5_addOffered_12 : decode cX5_addOffered 12 = .ok (.getfield 9, 3) := by decide +kernel
theorem dX5_addOffered_15 : decode cX5_addOffered 15 = .ok (.arraylength, 1) := by decide +kernel
theorem dX5_addOffered_16 : decode cX5_addOffered 16 = .ok (.if_icmp .ge 37, 3) := by decide +kernel
theorem dX5_addOffered_19 : decode cX5_addOffered 19 = .ok (.aload_n 0, 1) := by decide +kernel
theorem dX5_addOffered_20 : decode cX5_addOffered 20 = .ok (.getfield 9, 3) := by decide +kernel
theorem dX5_addOffered_23 : decode cX5_addOffered 23 = .ok (.iload_n 3, 1) := by decide +kernel
theorem dX5_addOffered_24 : decode cX5_addOffered 24 = .ok (.laload, 1) := by decide +kernel
theorem dX5_addOffered_25 : decode cX5_addOffered 25 = .ok (.ldc2_w 60, 3) := by decide +kernel
theorem dX5_addOffered_28 : decode cX5_addOffered 28 = .ok (.lcmp, 1) := by decide +kernel
theorem dX5_addOffered_29 : decode cX5_addOffered 29 = .ok (.ifCond .eq 18, 3) := by decide +kernel
theorem dX5_addOffered_32 : decode cX5_addOffered 32 = .ok (.aload_n 0, 1) := by decide +kernel
theorem dX5_addOffered_33 : decode cX5_addOffered 33 = .ok (.getfield 27, 3) := by decide +kernel
theorem dX5_addOffered_36 : decode cX5_addOffered 36 = .ok (.iload_n 3, 1) := by decide +kernel
theorem dX5_addOffered_37 : decode cX5_addOffered 37 = .ok (.iload_n 1, 1) := by decide +kernel
theorem dX5_addOffered_38 : decode cX5_addOffered 38 = .ok (.aload_n 0, 1) := by decide +kernel
theorem dX5_addOffered_39 : decode cX5_addOffered 39 = .ok (.getfield 9, 3) := by decide +kernel
theorem dX5_addOffered_42 : decode cX5_addOffered 42 = .ok (.iload_n 3, 1) := by decide +kernel
theorem dX5_addOffered_43 : decode cX5_addOffered 43 = .ok (.laload, 1) := by decide +kernel
theorem dX5_addOffered_44 : decode cX5_addOffered 44 = .ok (.invokevirtual 62, 3) := by decide +kernel
theorem dX5_addOffered_47 : decode cX5_addOffered 47 = .ok (.iinc 3 1, 3) := by decide +kernel
theorem dX5_addOffered_50 : decode cX5_addOffered 50 = .ok (.goto (-40), 3) := by decide +kernel
theorem dX5_addOffered_53 : decode cX5_addOffered 53 = .ok (.aload_n 0, 1) := by decide +kernel
theorem dX5_addOffered_54 : decode cX5_addOffered 54 = .ok (.getfield 27, 3) := by decide +kernel
theorem dX5_addOffered_57 : decode cX5_addOffered 57 = .ok (.getfield 48, 3) := by decide +kernel
theorem dX5_addOffered_60 : decode cX5_addOffered 60 = .ok (.iload_n 2, 1) := by decide +kernel
theorem dX5_addOffered_61 : decode cX5_addOffered 61 = .ok (.if_icmp .le 7, 3) := by decide +kernel
theorem dX5_addOffered_64 : decode cX5_addOffered 64 = .ok (.iconst 1, 1) := by decide +kernel
theorem dX5_addOffered_65 : decode cX5_addOffered 65 = .ok (.goto 4, 3) := by decide +kernel
theorem dX5_addOffered_68 : decode cX5_addOffered 68 = .ok (.iconst 0, 1) := by decide +kernel
theorem dX5_addOffered_69 : decode cX5_addOffered 69 = .ok (.ireturn, 1) := by decide +kernel
theorem dX5_offer_0 : decode cX5_offer 0 = .ok (.lload_n 2, 1) := by decide +kernel
theorem dX5_offer_1 : decode cX5_offer 1 = .ok (.aload_n 0, 1) := by decide +kernel
theorem dX5_offer_2 : decode cX5_offer 2 = .ok (.getfield 9, 3) := by decide +kernel
theorem dX5_offer_5 : decode cX5_offer 5 = .ok (.iload_n 1, 1) := by decide +kernel
theorem dX5_offer_6 : decode cX5_offer 6 = .ok (.invokestatic 66, 3) := by decide +kernel
theorem dX5_offer_9 : decode cX5_offer 9 = .ok (.lcmp, 1) := by decide +kernel
theorem dX5_offer_10 : decode cX5_offer 10 = .ok (.ifCond .ge 23, 3) := by decide +kernel
theorem dX5_offer_13 : decode cX5_offer 13 = .ok (.aload_n 0, 1) := by decide +kernel
theorem dX5_offer_14 : decode cX5_offer 14 = .ok (.getfield 27, 3) := by decide +kernel
theorem dX5_offer_17 : decode cX5_offer 17 = .ok (.iload_n 1, 1) := by decide +kernel
theorem dX5_offer_18 : decode cX5_offer 18 = .ok (.invokevirtual 70, 3) := by decide +kernel
theorem dX5_offer_21 : decode cX5_offer 21 = .ok (.ifCond .ne 12, 3) := by decide +kernel
theorem dX5_offer_24 : decode cX5_offer 24 = .ok (.aload_n 0, 1) := by decide +kernel
theorem dX5_offer_25 : decode cX5_offer 25 = .ok (.getfield 9, 3) := by decide +kernel
theorem dX5_offer_28 : decode cX5_offer 28 = .ok (.iload_n 1, 1) := by decide +kernel
theorem dX5_offer_29 : decode cX5_offer 29 = .ok (.lload_n 2, 1) := by decide +kernel
theorem dX5_offer_30 : decode cX5_offer 30 = .ok (.invokestatic 73, 3) := by decide +kernel
theorem dX5_offer_33 : decode cX5_offer 33 = .ok (.return_, 1) := by decide +kernel
theorem dX5_offerSeeds_0 : decode cX5_offerSeeds 0 = .ok (.iconst 0, 1) := by decide +kernel
theorem dX5_offerSeeds_1 : decode cX5_offerSeeds 1 = .ok (.istore_n 1, 1) := by decide +kernel
theorem dX5_offerSeeds_2 : decode cX5_offerSeeds 2 = .ok (.iload_n 1, 1) := by decide +kernel
theorem dX5_offerSeeds_3 : decode cX5_offerSeeds 3 = .ok (.aload_n 0, 1) := by decide +kernel
theorem dX5_offerSeeds_4 : decode cX5_offerSeeds 4 = .ok (.getfield 15, 3) := by decide +kernel
theorem dX5_offerSeeds_7 : decode cX5_offerSeeds 7 = .ok (.getfield 77, 3) := by decide +kernel
theorem dX5_offerSeeds_10 : decode cX5_offerSeeds 10 = .ok (.if_icmp .ge 26, 3) := by decide +kernel
theorem dX5_offerSeeds_13 : decode cX5_offerSeeds 13 = .ok (.aload_n 0, 1) := by decide +kernel
theorem dX5_offerSeeds_14 : decode cX5_offerSeeds 14 = .ok (.getfield 15, 3) := by decide +kernel
theorem dX5_offerSeeds_17 : decode cX5_offerSeeds 17 = .ok (.iload_n 1, 1) := by decide +kernel
theorem dX5_offerSeeds_18 : decode cX5_offerSeeds 18 = .ok (.invokevirtual 80, 3) := by decide +kernel
theorem dX5_offerSeeds_21 : decode cX5_offerSeeds 21 = .ok (.ifCond .eq 9, 3) := by decide +kernel
theorem dX5_offerSeeds_24 : decode cX5_offerSeeds 24 = .ok (.aload_n 0, 1) := by decide +kernel
theorem dX5_offerSeeds_25 : decode cX5_offerSeeds 25 = .ok (.iload_n 1, 1) := by decide +kernel
theorem dX5_offerSeeds_26 : decode cX5_offerSeeds 26 = .ok (.iconst (-1), 1) := by decide +kernel
theorem dX5_offerSeeds_27 : decode cX5_offerSeeds 27 = .ok (.invokevirtual 83, 3) := by decide +kernel
theorem dX5_offerSeeds_30 : decode cX5_offerSeeds 30 = .ok (.iinc 1 1, 3) := by decide +kernel
theorem dX5_offerSeeds_33 : decode cX5_offerSeeds 33 = .ok (.goto (-31), 3) := by decide +kernel
theorem dX5_offerSeeds_36 : decode cX5_offerSeeds 36 = .ok (.return_, 1) := by decide +kernel
theorem dX5_offerFrom_0 : decode cX5_offerFrom 0 = .ok (.aload_n 0, 1) := by decide +kernel
theorem dX5_offerFrom_1 : decode cX5_offerFrom 1 = .ok (.getfield 27, 3) := by decide +kernel
theorem dX5_offerFrom_4 : decode cX5_offerFrom 4 = .ok (.iload_n 1, 1) := by decide +kernel
theorem dX5_offerFrom_5 : decode cX5_offerFrom 5 = .ok (.invokevirtual 87, 3) := by decide +kernel
theorem dX5_offerFrom_8 : decode cX5_offerFrom 8 = .ok (.istore_n 2, 1) := by decide +kernel
theorem dX5_offerFrom_9 : decode cX5_offerFrom 9 = .ok (.iload_n 2, 1) := by decide +kernel
theorem dX5_offerFrom_10 : decode cX5_offerFrom 10 = .ok (.invokestatic 91, 3) := by decide +kernel
theorem dX5_offerFrom_13 : decode cX5_offerFrom 13 = .ok (.istore_n 3, 1) := by decide +kernel
theorem dX5_offerFrom_14 : decode cX5_offerFrom 14 = .ok (.iload_n 2, 1) := by decide +kernel
theorem dX5_offerFrom_15 : decode cX5_offerFrom 15 = .ok (.invokestatic 94, 3) := by decide +kernel
theorem dX5_offerFrom_18 : decode cX5_offerFrom 18 = .ok (.istore 4, 2) := by decide +kernel
theorem dX5_offerFrom_20 : decode cX5_offerFrom 20 = .ok (.iload 4, 2) := by decide +kernel
theorem dX5_offerFrom_22 : decode cX5_offerFrom 22 = .ok (.iconst (-1), 1) := by decide +kernel
theorem dX5_offerFrom_23 : decode cX5_offerFrom 23 = .ok (.if_icmp .ne 36, 3) := by decide +kernel
theorem dX5_offerFrom_26 : decode cX5_offerFrom 26 = .ok (.aload_n 0, 1) := by decide +kernel
theorem dX5_offerFrom_27 : decode cX5_offerFrom 27 = .ok (.iload_n 1, 1) := by decide +kernel
theorem dX5_offerFrom_28 : decode cX5_offerFrom 28 = .ok (.iload_n 3, 1) := by decide +kernel
theorem dX5_offerFrom_29 : decode cX5_offerFrom 29 = .ok (.iload_n 2, 1) := by decide +kernel
theorem dX5_offerFrom_30 : decode cX5_offerFrom 30 = .ok (.invokestatic 97, 3) := by decide +kernel
theorem dX5_offerFrom_33 : decode cX5_offerFrom 33 = .ok (.invokevirtual 100, 3) := by decide +kernel
theorem dX5_offerFrom_36 : decode cX5_offerFrom 36 = .ok (.aload_n 0, 1) := by decide +kernel
theorem dX5_offerFrom_37 : decode cX5_offerFrom 37 = .ok (.iload_n 1, 1) := by decide +kernel
theorem dX5_offerFrom_38 : decode cX5_offerFrom 38 = .ok (.iload_n 3, 1) := by decide +kernel
theorem dX5_offerFrom_39 : decode cX5_offerFrom 39 = .ok (.iload_n 2, 1) := by decide +kernel
theorem dX5_offerFrom_40 : decode cX5_offerFrom 40 = .ok (.invokestatic 97, 3) := by decide +kernel
theorem dX5_offerFrom_43 : decode cX5_offerFrom 43 = .ok (.invokevirtual 104, 3) := by decide +kernel
theorem dX5_offerFrom_46 : decode cX5_offerFrom 46 = .ok (.aload_n 0, 1) := by decide +kernel
theorem dX5_offerFrom_47 : decode cX5_offerFrom 47 = .ok (.iload_n 1, 1) := by decide +kernel
theorem dX5_offerFrom_48 : decode cX5_offerFrom 48 = .ok (.iload_n 3, 1) := by decide +kernel
theorem dX5_offerFrom_49 : decode cX5_offerFrom 49 = .ok (.iload_n 2, 1) := by decide +kernel
theorem dX5_offerFrom_50 : decode cX5_offerFrom 50 = .ok (.invokestatic 97, 3) := by decide +kernel
theorem dX5_offerFrom_53 : decode cX5_offerFrom 53 = .ok (.invokevirtual 107, 3) := by decide +kernel
theorem dX5_offerFrom_56 : decode cX5_offerFrom 56 = .ok (.goto 36, 3) := by decide +kernel
theorem dX5_offerFrom_59 : decode cX5_offerFrom 59 = .ok (.aload_n 0, 1) := by decide +kernel
theorem dX5_offerFrom_60 : decode cX5_offerFrom 60 = .ok (.iload_n 2, 1) := by decide +kernel
theorem dX5_offerFrom_61 : decode cX5_offerFrom 61 = .ok (.invokestatic 97, 3) := by decide +kernel
theorem dX5_offerFrom_64 : decode cX5_offerFrom 64 = .ok (.iload_n 1, 1) := by decide +kernel
theorem dX5_offerFrom_65 : decode cX5_offerFrom 65 = .ok (.invokevirtual 83, 3) := by decide +kernel
theorem dX5_offerFrom_68 : decode cX5_offerFrom 68 = .ok (.aload_n 0, 1) := by decide +kernel
theorem dX5_offerFrom_69 : decode cX5_offerFrom 69 = .ok (.iload_n 1, 1) := by decide +kernel
theorem dX5_offerFrom_70 : decode cX5_offerFrom 70 = .ok (.iload_n 3, 1) := by decide +kernel
theorem dX5_offerFrom_71 : decode cX5_offerFrom 71 = .ok (.iload 4, 2) := by decide +kernel
theorem dX5_offerFrom_73 : decode cX5_offerFrom 73 = .ok (.iload_n 2, 1) := by decide +kernel
theorem dX5_offerFrom_74 : decode cX5_offerFrom 74 = .ok (.invokestatic 97, 3) := by decide +kernel
theorem dX5_offerFrom_77 : decode cX5_offerFrom 77 = .ok (.invokevirtual 110, 3) := by decide +kernel
theorem dX5_offerFrom_80 : decode cX5_offerFrom 80 = .ok (.aload_n 0, 1) := by decide +kernel
theorem dX5_offerFrom_81 : decode cX5_offerFrom 81 = .ok (.iload_n 1, 1) := by decide +kernel
theorem dX5_offerFrom_82 : decode cX5_offerFrom 82 = .ok (.iload_n 3, 1) := by decide +kernel
theorem dX5_offerFrom_83 : decode cX5_offerFrom 83 = .ok (.iload 4, 2) := by decide +kernel
theorem dX5_offerFrom_85 : decode cX5_offerFrom 85 = .ok (.iload_n 2, 1) := by decide +kernel
theorem dX5_offerFrom_86 : decode cX5_offerFrom 86 = .ok (.invokestatic 97, 3) := by decide +kernel
theorem dX5_offerFrom_89 : decode cX5_offerFrom 89 = .ok (.invokevirtual 114, 3) := by decide +kernel
theorem dX5_offerFrom_92 : decode cX5_offerFrom 92 = .ok (.return_, 1) := by decide +kernel
theorem dX5_offerBegun_0 : decode cX5_offerBegun 0 = .ok (.aload_n 0, 1) := by decide +kernel
theorem dX5_offerBegun_1 : decode cX5_offerBegun 1 = .ok (.iload_n 1, 1) := by decide +kernel
theorem dX5_offerBegun_2 : decode cX5_offerBegun 2 = .ok (.iload_n 1, 1) := by decide +kernel
theorem dX5_offerBegun_3 : decode cX5_offerBegun 3 = .ok (.invokestatic 117, 3) := by decide +kernel
theorem dX5_offerBegun_6 : decode cX5_offerBegun 6 = .ok (.iconst 0, 1) := by decide +kernel
theorem dX5_offerBegun_7 : decode cX5_offerBegun 7 = .ok (.iload_n 2, 1) := by decide +kernel
theorem dX5_offerBegun_8 : decode cX5_offerBegun 8 = .ok (.iconst (-1), 1) := by decide +kernel
theorem dX5_offerBegun_9 : decode cX5_offerBegun 9 = .ok (.iconst (-1), 1) := by decide +kernel
theorem dX5_offerBegun_10 : decode cX5_offerBegun 10 = .ok (.invokestatic 121, 3) := by decide +kernel
theorem dX5_offerBegun_13 : decode cX5_offerBegun 13 = .ok (.invokevirtual 125, 3) := by decide +kernel
theorem dX5_offerBegun_16 : decode cX5_offerBegun 16 = .ok (.aload_n 0, 1) := by decide +kernel
theorem dX5_offerBegun_17 : decode cX5_offerBegun 17 = .ok (.iload_n 1, 1) := by decide +kernel
theorem dX5_offerBegun_18 : decode cX5_offerBegun 18 = .ok (.iconst 0, 1) := by decide +kernel
theorem dX5_offerBegun_19 : decode cX5_offerBegun 19 = .ok (.invokestatic 117, 3) := by decide +kernel
theorem dX5_offerBegun_22 : decode cX5_offerBegun 22 = .ok (.iconst 1, 1) := by decide +kernel
theorem dX5_offerBegun_23 : decode cX5_offerBegun 23 = .ok (.iload_n 2, 1) := by decide +kernel
theorem dX5_offerBegun_24 : decode cX5_offerBegun 24 = .ok (.iconst (-1), 1) := by decide +kernel
theorem dX5_offerBegun_25 : decode cX5_offerBegun 25 = .ok (.iconst (-1), 1) := by decide +kernel
theorem dX5_offerBegun_26 : decode cX5_offerBegun 26 = .ok (.invokestatic 121, 3) := by decide +kernel
theorem dX5_offerBegun_29 : decode cX5_offerBegun 29 = .ok (.invokevirtual 125, 3) := by decide +kernel
theorem dX5_offerBegun_32 : decode cX5_offerBegun 32 = .ok (.return_, 1) := by decide +kernel
theorem dX5_offerByParts_0 : decode cX5_offerByParts 0 = .ok (.aload_n 0, 1) := by decide +kernel
theorem dX5_offerByParts_1 : decode cX5_offerByParts 1 = .ok (.getfield 15, 3) := by decide +kernel
theorem dX5_offerByParts_4 : decode cX5_offerByParts 4 = .ok (.iload_n 3, 1) := by decide +kernel
theorem dX5_offerByParts_5 : decode cX5_offerByParts 5 = .ok (.invokevirtual 129, 3) := by decide +kernel
theorem dX5_offerByParts_8 : decode cX5_offerByParts 8 = .ok (.istore 4, 2) := by decide +kernel
theorem dX5_offerByParts_10 : decode cX5_offerByParts 10 = .ok (.aload_n 0, 1) := by decide +kernel
theorem dX5_offerByParts_11 : decode cX5_offerByParts 11 = .ok (.getfield 15, 3) := by decide +kernel
theorem dX5_offerByParts_14 : decode cX5_offerByParts 14 = .ok (.iload_n 3, 1) := by decide +kernel
theorem dX5_offerByParts_15 : decode cX5_offerByParts 15 = .ok (.invokevirtual 132, 3) := by decide +kernel
theorem dX5_offerByParts_18 : decode cX5_offerByParts 18 = .ok (.istore 5, 2) := by decide +kernel
theorem dX5_offerByParts_20 : decode cX5_offerByParts 20 = .ok (.aload_n 0, 1) := by decide +kernel
theorem dX5_offerByParts_21 : decode cX5_offerByParts 21 = .ok (.getfield 15, 3) := by decide +kernel
theorem dX5_offerByParts_24 : decode cX5_offerByParts 24 = .ok (.iload_n 3, 1) := by decide +kernel
theorem dX5_offerByParts_25 : decode cX5_offerByParts 25 = .ok (.invokevirtual 135, 3) := by decide +kernel
theorem dX5_offerByParts_28 : decode cX5_offerByParts 28 = .ok (.iconst 3, 1) := by decide +kernel
theorem dX5_offerByParts_29 : decode cX5_offerByParts 29 = .ok (.if_icmp .ne 37, 3) := by decide +kernel
theorem dX5_offerByParts_32 : decode cX5_offerByParts 32 = .ok (.aload_n 0, 1) := by decide +kernel
theorem dX5_offerByParts_33 : decode cX5_offerByParts 33 = .ok (.iload_n 2, 1) := by decide +kernel
theorem dX5_offerByParts_34 : decode cX5_offerByParts 34 = .ok (.iload 4, 2) := by decide +kernel
theorem dX5_offerByParts_36 : decode cX5_offerByParts 36 = .ok (.invokestatic 117, 3) := by decide +kernel
theorem dX5_offerByParts_39 : decode cX5_offerByParts 39 = .ok (.iconst 2, 1) := by decide +kernel
theorem dX5_offerByParts_40 : decode cX5_offerByParts 40 = .ok (.iload_n 1, 1) := by decide +kernel
theorem dX5_offerByParts_41 : decode cX5_offerByParts 41 = .ok (.iconst (-1), 1) := by decide +kernel
theorem dX5_offerByParts_42 : decode cX5_offerByParts 42 = .ok (.iconst (-1), 1) := by decide +kernel
theorem dX5_offerByParts_43 : decode cX5_offerByParts 43 = .ok (.invokestatic 121, 3) := by decide +kernel
theorem dX5_offerByParts_46 : decode cX5_offerByParts 46 = .ok (.invokevirtual 125, 3) := by decide +kernel
theorem dX5_offerByParts_49 : decode cX5_offerByParts 49 = .ok (.aload_n 0, 1) := by decide +kernel
theorem dX5_offerByParts_50 : decode cX5_offerByParts 50 = .ok (.iload_n 2, 1) := by decide +kernel
theorem dX5_offerByParts_51 : decode cX5_offerByParts 51 = .ok (.iload 5, 2) := by decide +kernel
theorem dX5_offerByParts_53 : decode cX5_offerByParts 53 = .ok (.invokestatic 117, 3) := by decide +kernel
theorem dX5_offerByParts_56 : decode cX5_offerByParts 56 = .ok (.iconst 2, 1) := by decide +kernel
theorem dX5_offerByParts_57 : decode cX5_offerByParts 57 = .ok (.iload_n 1, 1) := by decide +kernel
theorem dX5_offerByParts_58 : decode cX5_offerByParts 58 = .ok (.iconst (-1), 1) := by decide +kernel
theorem dX5_offerByParts_59 : decode cX5_offerByParts 59 = .ok (.iconst (-1), 1) := by decide +kernel
theorem dX5_offerByParts_60 : decode cX5_offerByParts 60 = .ok (.invokestatic 121, 3) := by decide +kernel
theorem dX5_offerByParts_63 : decode cX5_offerByParts 63 = .ok (.invokevirtual 125, 3) := by decide +kernel
theorem dX5_offerByParts_66 : decode cX5_offerByParts 66 = .ok (.aload_n 0, 1) := by decide +kernel
theorem dX5_offerByParts_67 : decode cX5_offerByParts 67 = .ok (.getfield 15, 3) := by decide +kernel
theorem dX5_offerByParts_70 : decode cX5_offerByParts 70 = .ok (.iload_n 3, 1) := by decide +kernel
theorem dX5_offerByParts_71 : decode cX5_offerByParts 71 = .ok (.invokevirtual 135, 3) := by decide +kernel
theorem dX5_offerByParts_74 : decode cX5_offerByParts 74 = .ok (.iconst 4, 1) := by decide +kernel
theorem dX5_offerByParts_75 : decode cX5_offerByParts 75 = .ok (.if_icmp .ne 22, 3) := by decide +kernel
theorem dX5_offerByParts_78 : decode cX5_offerByParts 78 = .ok (.aload_n 0, 1) := by decide +kernel
theorem dX5_offerByParts_79 : decode cX5_offerByParts 79 = .ok (.iload_n 2, 1) := by decide +kernel
theorem dX5_offerByParts_80 : decode cX5_offerByParts 80 = .ok (.iload 4, 2) := by decide +kernel
theorem dX5_offerByParts_82 : decode cX5_offerByParts 82 = .ok (.iload 5, 2) := by decide +kernel
theorem dX5_offerByParts_84 : decode cX5_offerByParts 84 = .ok (.invokestatic 138, 3) := by decide +kernel
theorem dX5_offerByParts_87 : decode cX5_offerByParts 87 = .ok (.iconst 5, 1) := by decide +kernel
theorem dX5_offerByParts_88 : decode cX5_offerByParts 88 = .ok (.iload_n 1, 1) := by decide +kernel
theorem dX5_offerByParts_89 : decode cX5_offerByParts 89 = .ok (.iconst (-1), 1) := by decide +kernel
theorem dX5_offerByParts_90 : decode cX5_offerByParts 90 = .ok (.iconst (-1), 1) := by decide +kernel
theorem dX5_offerByParts_91 : decode cX5_offerByParts 91 = .ok (.invokestatic 121, 3) := by decide +kernel
theorem dX5_offerByParts_94 : decode cX5_offerByParts 94 = .ok (.invokevirtual 125, 3) := by decide +kernel
theorem dX5_offerByParts_97 : decode cX5_offerByParts 97 = .ok (.return_, 1) := by decide +kernel
theorem dX5_offerMeets_0 : decode cX5_offerMeets 0 = .ok (.iconst 0, 1) := by decide +kernel
theorem dX5_offerMeets_1 : decode cX5_offerMeets 1 = .ok (.istore 4, 2) := by decide +kernel
theorem dX5_offerMeets_3 : decode cX5_offerMeets 3 = .ok (.iload 4, 2) := by decide +kernel
theorem dX5_offerMeets_5 : decode cX5_offerMeets 5 = .ok (.aload_n 0, 1) := by decide +kernel
theorem dX5_offerMeets_6 : decode cX5_offerMeets 6 = .ok (.getfield 15, 3) := by decide +kernel
theorem dX5_offerMeets_9 : decode cX5_offerMeets 9 = .ok (.getfield 77, 3) := by decide +kernel
theorem dX5_offerMeets_12 : decode cX5_offerMeets 12 = .ok (.if_icmp .ge 71, 3) := by decide +kernel
theorem dX5_offerMeets_15 : decode cX5_offerMeets 15 = .ok (.aload_n 0, 1) := by decide +kernel
theorem dX5_offerMeets_16 : decode cX5_offerMeets 16 = .ok (.getfield 15, 3) := by decide +kernel
theorem dX5_offerMeets_19 : decode cX5_offerMeets 19 = .ok (.iload 4, 2) := by decide +kernel
theorem dX5_offerMeets_21 : decode cX5_offerMeets 21 = .ok (.invokevirtual 135, 3) := by decide +kernel
theorem dX5_offerMeets_24 : decode cX5_offerMeets 24 = .ok (.iconst 3, 1) := by decide +kernel
theorem dX5_offerMeets_25 : decode cX5_offerMeets 25 = .ok (.if_icmp .ne 52, 3) := by decide +kernel
theorem dX5_offerMeets_28 : decode cX5_offerMeets 28 = .ok (.aload_n 0, 1) := by decide +kernel
theorem dX5_offerMeets_29 : decode cX5_offerMeets 29 = .ok (.getfield 15, 3) := by decide +kernel
theorem dX5_offerMeets_32 : decode cX5_offerMeets 32 = .ok (.iload 4, 2) := by decide +kernel
theorem dX5_offerMeets_34 : decode cX5_offerMeets 34 = .ok (.invokevirtual 129, 3) := by decide +kernel
theorem dX5_offerMeets_37 : decode cX5_offerMeets 37 = .ok (.iload_n 3, 1) := by decide +kernel
theorem dX5_offerMeets_38 : decode cX5_offerMeets 38 = .ok (.if_icmp .ne 39, 3) := by decide +kernel
theorem dX5_offerMeets_41 : decode cX5_offerMeets 41 = .ok (.aload_n 0, 1) := by decide +kernel
theorem dX5_offerMeets_42 : decode cX5_offerMeets 42 = .ok (.getfield 27, 3) := by decide +kernel
theorem dX5_offerMeets_45 : decode cX5_offerMeets 45 = .ok (.iload_n 2, 1) := by decide +kernel
theorem dX5_offerMeets_46 : decode cX5_offerMeets 46 = .ok (.aload_n 0, 1) := by decide +kernel
theorem dX5_offerMeets_47 : decode cX5_offerMeets 47 = .ok (.getfield 15, 3) := by decide +kernel
theorem dX5_offerMeets_50 : decode cX5_offerMeets 50 = .ok (.iload 4, 2) := by decide +kernel
theorem dX5_offerMeets_52 : decode cX5_offerMeets 52 = .ok (.invokevirtual 132, 3) := by decide +kernel
theorem dX5_offerMeets_55 : decode cX5_offerMeets 55 = .ok (.invokevirtual 142, 3) := by decide +kernel
theorem dX5_offerMeets_58 : decode cX5_offerMeets 58 = .ok (.istore 5, 2) := by decide +kernel
theorem dX5_offerMeets_60 : decode cX5_offerMeets 60 = .ok (.aload_n 0, 1) := by decide +kernel
theorem dX5_offerMeets_61 : decode cX5_offerMeets 61 = .ok (.iload_n 2, 1) := by decide +kernel
theorem dX5_offerMeets_62 : decode cX5_offerMeets 62 = .ok (.iload 4, 2) := by decide +kernel
theorem dX5_offerMeets_64 : decode cX5_offerMeets 64 = .ok (.invokestatic 117, 3) := by decide +kernel
theorem dX5_offerMeets_67 : decode cX5_offerMeets 67 = .ok (.iconst 3, 1) := by decide +kernel
theorem dX5_offerMeets_68 : decode cX5_offerMeets 68 = .ok (.iload_n 1, 1) := by decide +kernel
theorem dX5_offerMeets_69 : decode cX5_offerMeets 69 = .ok (.iload 5, 2) := by decide +kernel
theorem dX5_offerMeets_71 : decode cX5_offerMeets 71 = .ok (.invokestatic 145, 3) := by decide +kernel
theorem dX5_offerMeets_74 : decode cX5_offerMeets 74 = .ok (.invokevirtual 125, 3) := by decide +kernel
theorem dX5_offerMeets_77 : decode cX5_offerMeets 77 = .ok (.iinc 4 1, 3) := by decide +kernel
theorem dX5_offerMeets_80 : decode cX5_offerMeets 80 = .ok (.goto (-77), 3) := by decide +kernel
theorem dX5_offerMeets_83 : decode cX5_offerMeets 83 = .ok (.return_, 1) := by decide +kernel
theorem dX5_offerByAxioms_0 : decode cX5_offerByAxioms 0 = .ok (.iconst 0, 1) := by decide +kernel
theorem dX5_offerByAxioms_1 : decode cX5_offerByAxioms 1 = .ok (.istore 4, 2) := by decide +kernel
theorem dX5_offerByAxioms_3 : decode cX5_offerByAxioms 3 = .ok (.iload 4, 2) := by decide +kernel
theorem dX5_offerByAxioms_5 : decode cX5_offerByAxioms 5 = .ok (.aload_n 0, 1) := by decide +kernel
theorem dX5_offerByAxioms_6 : decode cX5_offerByAxioms 6 = .ok (.getfield 19, 3) := by decide +kernel
theorem dX5_offerByAxioms_9 : decode cX5_offerByAxioms 9 = .ok (.getfield 149, 3) := by decide +kernel
theorem dX5_offerByAxioms_12 : decode cX5_offerByAxioms 12 = .ok (.if_icmp .ge 62, 3) := by decide +kernel
theorem dX5_offerByAxioms_15 : decode cX5_offerByAxioms 15 = .ok (.aload_n 0, 1) := by decide +kernel
theorem dX5_offerByAxioms_16 : decode cX5_offerByAxioms 16 = .ok (.getfield 19, 3) := by decide +kernel
theorem dX5_offerByAxioms_19 : decode cX5_offerByAxioms 19 = .ok (.iload 4, 2) := by decide +kernel
theorem dX5_offerByAxioms_21 : decode cX5_offerByAxioms 21 = .ok (.iconst 0, 1) := by decide +kernel
theorem dX5_offerByAxioms_22 : decode cX5_offerByAxioms 22 = .ok (.invokevirtual 152, 3) := by decide +kernel
theorem dX5_offerByAxioms_25 : decode cX5_offerByAxioms 25 = .ok (.ifCond .eq 43, 3) := by decide +kernel
theorem dX5_offerByAxioms_28 : decode cX5_offerByAxioms 28 = .ok (.aload_n 0, 1) := by decide +kernel
theorem dX5_offerByAxioms_29 : decode cX5_offerByAxioms 29 = .ok (.getfield 19, 3) := by decide +kernel
theorem dX5_offerByAxioms_32 : decode cX5_offerByAxioms 32 = .ok (.iload 4, 2) := by decide +kernel
theorem dX5_offerByAxioms_34 : decode cX5_offerByAxioms 34 = .ok (.iconst 1, 1) := by decide +kernel
theorem dX5_offerByAxioms_35 : decode cX5_offerByAxioms 35 = .ok (.invokevirtual 156, 3) := by decide +kernel
theorem dX5_offerByAxioms_38 : decode cX5_offerByAxioms 38 = .ok (.iload_n 3, 1) := by decide +kernel
theorem dX5_offerByAxioms_39 : decode cX5_offerByAxioms 39 = .ok (.if_icmp .ne 29, 3) := by decide +kernel
theorem dX5_offerByAxioms_42 : decode cX5_offerByAxioms 42 = .ok (.aload_n 0, 1) := by decide +kernel
theorem dX5_offerByAxioms_43 : decode cX5_offerByAxioms 43 = .ok (.iload_n 2, 1) := by decide +kernel
theorem dX5_offerByAxioms_44 : decode cX5_offerByAxioms 44 = .ok (.aload_n 0, 1) := by decide +kernel
theorem dX5_offerByAxioms_45 : decode cX5_offerByAxioms 45 = .ok (.getfield 19, 3) := by decide +kernel
theorem dX5_offerByAxioms_48 : decode cX5_offerByAxioms 48 = .ok (.iload 4, 2) := by decide +kernel
theorem dX5_offerByAxioms_50 : decode cX5_offerByAxioms 50 = .ok (.iconst 2, 1) := by decide +kernel
theorem dX5_offerByAxioms_51 : decode cX5_offerByAxioms 51 = .ok (.invokevirtual 156, 3) := by decide +kernel
theorem dX5_offerByAxioms_54 : decode cX5_offerByAxioms 54 = .ok (.invokestatic 117, 3) := by decide +kernel
theorem dX5_offerByAxioms_57 : decode cX5_offerByAxioms 57 = .ok (.iconst 4, 1) := by decide +kernel
theorem dX5_offerByAxioms_58 : decode cX5_offerByAxioms 58 = .ok (.iload_n 1, 1) := by decide +kernel
theorem dX5_offerByAxioms_59 : decode cX5_offerByAxioms 59 = .ok (.iconst (-1), 1) := by decide +kernel
theorem dX5_offerByAxioms_60 : decode cX5_offerByAxioms 60 = .ok (.iload 4, 2) := by decide +kernel
theorem dX5_offerByAxioms_62 : decode cX5_offerByAxioms 62 = .ok (.invokestatic 121, 3) := by decide +kernel
theorem dX5_offerByAxioms_65 : decode cX5_offerByAxioms 65 = .ok (.invokevirtual 125, 3) := by decide +kernel
theorem dX5_offerByAxioms_68 : decode cX5_offerByAxioms 68 = .ok (.iinc 4 1, 3) := by decide +kernel
theorem dX5_offerByAxioms_71 : decode cX5_offerByAxioms 71 = .ok (.goto (-68), 3) := by decide +kernel
theorem dX5_offerByAxioms_74 : decode cX5_offerByAxioms 74 = .ok (.return_, 1) := by decide +kernel
theorem dX5_offerBack_0 : decode cX5_offerBack 0 = .ok (.iconst 0, 1) := by decide +kernel
theorem dX5_offerBack_1 : decode cX5_offerBack 1 = .ok (.istore 5, 2) := by decide +kernel
theorem dX5_offerBack_3 : decode cX5_offerBack 3 = .ok (.iload 5, 2) := by decide +kernel
theorem dX5_offerBack_5 : decode cX5_offerBack 5 = .ok (.aload_n 0, 1) := by decide +kernel
theorem dX5_offerBack_6 : decode cX5_offerBack 6 = .ok (.getfield 15, 3) := by decide +kernel
theorem dX5_offerBack_9 : decode cX5_offerBack 9 = .ok (.getfield 77, 3) := by decide +kernel
theorem dX5_offerBack_12 : decode cX5_offerBack 12 = .ok (.if_icmp .ge 80, 3) := by decide +kernel
theorem dX5_offerBack_15 : decode cX5_offerBack 15 = .ok (.aload_n 0, 1) := by decide +kernel
theorem dX5_offerBack_16 : decode cX5_offerBack 16 = .ok (.getfield 15, 3) := by decide +kernel
theorem dX5_offerBack_19 : decode cX5_offerBack 19 = .ok (.iload 5, 2) := by decide +kernel
theorem dX5_offerBack_21 : decode cX5_offerBack 21 = .ok (.invokevirtual 135, 3) := by decide +kernel
theorem dX5_offerBack_24 : decode cX5_offerBack 24 = .ok (.iconst 4, 1) := by decide +kernel
theorem dX5_offerBack_25 : decode cX5_offerBack 25 = .ok (.if_icmp .ne 61, 3) := by decide +kernel
theorem dX5_offerBack_28 : decode cX5_offerBack 28 = .ok (.aload_n 0, 1) := by decide +kernel
theorem dX5_offerBack_29 : decode cX5_offerBack 29 = .ok (.getfield 23, 3) := by decide +kernel
theorem dX5_offerBack_32 : decode cX5_offerBack 32 = .ok (.iload_n 3, 1) := by decide +kernel
theorem dX5_offerBack_33 : decode cX5_offerBack 33 = .ok (.aload_n 0, 1) := by decide +kernel
theorem dX5_offerBack_34 : decode cX5_offerBack 34 = .ok (.getfield 15, 3) := by decide +kernel
theorem dX5_offerBack_37 : decode cX5_offerBack 37 = .ok (.iload 5, 2) := by decide +kernel
theorem dX5_offerBack_39 : decode cX5_offerBack 39 = .ok (.invokevirtual 129, 3) := by decide +kernel
theorem dX5_offerBack_42 : decode cX5_offerBack 42 = .ok (.invokevirtual 159, 3) := by decide +kernel
theorem dX5_offerBack_45 : decode cX5_offerBack 45 = .ok (.ifCond .eq 41, 3) := by decide +kernel
theorem dX5_offerBack_48 : decode cX5_offerBack 48 = .ok (.aload_n 0, 1) := by decide +kernel
theorem dX5_offerBack_49 : decode cX5_offerBack 49 = .ok (.getfield 27, 3) := by decide +kernel
theorem dX5_offerBack_52 : decode cX5_offerBack 52 = .ok (.iload 4, 2) := by decide +kernel
theorem dX5_offerBack_54 : decode cX5_offerBack 54 = .ok (.aload_n 0, 1) := by decide +kernel
theorem dX5_offerBack_55 : decode cX5_offerBack 55 = .ok (.getfield 15, 3) := by decide +kernel
theorem dX5_offerBack_58 : decode cX5_offerBack 58 = .ok (.iload 5, 2) := by decide +kernel
theorem dX5_offerBack_60 : decode cX5_offerBack 60 = .ok (.invokevirtual 132, 3) := by decide +kernel
theorem dX5_offerBack_63 : decode cX5_offerBack 63 = .ok (.invokevirtual 142, 3) := by decide +kernel
theorem dX5_offerBack_66 : decode cX5_offerBack 66 = .ok (.istore 6, 2) := by decide +kernel
theorem dX5_offerBack_68 : decode cX5_offerBack 68 = .ok (.aload_n 0, 1) := by decide +kernel
theorem dX5_offerBack_69 : decode cX5_offerBack 69 = .ok (.iload_n 2, 1) := by decide +kernel
theorem dX5_offerBack_70 : decode cX5_offerBack 70 = .ok (.iload 5, 2) := by decide +kernel
theorem dX5_offerBack_72 : decode cX5_offerBack 72 = .ok (.invokestatic 117, 3) := by decide +kernel
theorem dX5_offerBack_75 : decode cX5_offerBack 75 = .ok (.bipush 6, 2) := by decide +kernel
theorem dX5_offerBack_77 : decode cX5_offerBack 77 = .ok (.iload_n 1, 1) := by decide +kernel
theorem dX5_offerBack_78 : decode cX5_offerBack 78 = .ok (.iload 6, 2) := by decide +kernel
theorem dX5_offerBack_80 : decode cX5_offerBack 80 = .ok (.invokestatic 145, 3) := by decide +kernel
theorem dX5_offerBack_83 : decode cX5_offerBack 83 = .ok (.invokevirtual 125, 3) := by decide +kernel
theorem dX5_offerBack_86 : decode cX5_offerBack 86 = .ok (.iinc 5 1, 3) := by decide +kernel
theorem dX5_offerBack_89 : decode cX5_offerBack 89 = .ok (.goto (-86), 3) := by decide +kernel
theorem dX5_offerBack_92 : decode cX5_offerBack 92 = .ok (.aload_n 0, 1) := by decide +kernel
theorem dX5_offerBack_93 : decode cX5_offerBack 93 = .ok (.getfield 27, 3) := by decide +kernel
theorem dX5_offerBack_96 : decode cX5_offerBack 96 = .ok (.iload 4, 2) := by decide +kernel
theorem dX5_offerBack_98 : decode cX5_offerBack 98 = .ok (.iconst 1, 1) := by decide +kernel
theorem dX5_offerBack_99 : decode cX5_offerBack 99 = .ok (.invokevirtual 142, 3) := by decide +kernel
theorem dX5_offerBack_102 : decode cX5_offerBack 102 = .ok (.istore 5, 2) := by decide +kernel
theorem dX5_offerBack_104 : decode cX5_offerBack 104 = .ok (.aload_n 0, 1) := by decide +kernel
theorem dX5_offerBack_105 : decode cX5_offerBack 105 = .ok (.iload_n 2, 1) := by decide +kernel
theorem dX5_offerBack_106 : decode cX5_offerBack 106 = .ok (.iconst 1, 1) := by decide +kernel
theorem dX5_offerBack_107 : decode cX5_offerBack 107 = .ok (.invokestatic 117, 3) := by decide +kernel
theorem dX5_offerBack_110 : decode cX5_offerBack 110 = .ok (.bipush 7, 2) := by decide +kernel
theorem dX5_offerBack_112 : decode cX5_offerBack 112 = .ok (.iload_n 1, 1) := by decide +kernel
theorem dX5_offerBack_113 : decode cX5_offerBack 113 = .ok (.iload 5, 2) := by decide +kernel
theorem dX5_offerBack_115 : decode cX5_offerBack 115 = .ok (.invokestatic 145, 3) := by decide +kernel
theorem dX5_offerBack_118 : decode cX5_offerBack 118 = .ok (.invokevirtual 125, 3) := by decide +kernel
theorem dX5_offerBack_121 : decode cX5_offerBack 121 = .ok (.return_, 1) := by decide +kernel
theorem dX5_offerChains_0 : decode cX5_offerChains 0 = .ok (.iconst 0, 1) := by decide +kernel
theorem dX5_offerChains_1 : decode cX5_offerChains 1 = .ok (.istore 5, 2) := by decide +kernel
theorem dX5_offerChains_3 : decode cX5_offerChains 3 = .ok (.iload 5, 2) := by decide +kernel
theorem dX5_offerChains_5 : decode cX5_offerChains 5 = .ok (.iconst 4, 1) := by decide +kernel
theorem dX5_offerChains_6 : decode cX5_offerChains 6 = .ok (.if_icmp .ge 108, 3) := by decide +kernel
theorem dX5_offerChains_9 : decode cX5_offerChains 9 = .ok (.iconst 0, 1) := by decide +kernel
theorem dX5_offerChains_10 : decode cX5_offerChains 10 = .ok (.istore 6, 2) := by decide +kernel
theorem dX5_offerChains_12 : decode cX5_offerChains 12 = .ok (.iload 6, 2) := by decide +kernel
theorem dX5_offerChains_14 : decode cX5_offerChains 14 = .ok (.iconst 4, 1) := by decide +kernel
theorem dX5_offerChains_15 : decode cX5_offerChains 15 = .ok (.if_icmp .ge 93, 3) := by decide +kernel
theorem dX5_offerChains_18 : decode cX5_offerChains 18 = .ok (.aload_n 0, 1) := by decide +kernel
theorem dX5_offerChains_19 : decode cX5_offerChains 19 = .ok (.getfield 23, 3) := by decide +kernel
theorem dX5_offerChains_22 : decode cX5_offerChains 22 = .ok (.iload_n 3, 1) := by decide +kernel
theorem dX5_offerChains_23 : decode cX5_offerChains 23 = .ok (.iload 5, 2) := by decide +kernel
theorem dX5_offerChains_25 : decode cX5_offerChains 25 = .ok (.iload 6, 2) := by decide +kernel
theorem dX5_offerChains_27 : decode cX5_offerChains 27 = .ok (.invokevirtual 162, 3) := by decide +kernel
theorem dX5_offerChains_30 : decode cX5_offerChains 30 = .ok (.istore 7, 2) := by decide +kernel
theorem dX5_offerChains_32 : decode cX5_offerChains 32 = .ok (.iconst 0, 1) := by decide +kernel
theorem dX5_offerChains_33 : decode cX5_offerChains 33 = .ok (.istore 8, 2) := by decide +kernel
theorem dX5_offerChains_35 : decode cX5_offerChains 35 = .ok (.iload 8, 2) := by decide +kernel
theorem dX5_offerChains_37 : decode cX5_offerChains 37 = .ok (.aload_n 0, 1) := by decide +kernel
theorem dX5_offerChains_38 : decode cX5_offerChains 38 = .ok (.getfield 15, 3) := by decide +kernel
theorem dX5_offerChains_41 : decode cX5_offerChains 41 = .ok (.getfield 77, 3) := by decide +kernel
theorem dX5_offerChains_44 : decode cX5_offerChains 44 = .ok (.if_icmp .ge 58, 3) := by decide +kernel
theorem dX5_offerChains_47 : decode cX5_offerChains 47 = .ok (.iload 7, 2) := by decide +kernel
theorem dX5_offerChains_49 : decode cX5_offerChains 49 = .ok (.iconst (-1), 1) := by decide +kernel
theorem dX5_offerChains_50 : decode cX5_offerChains 50 = .ok (.if_icmp .eq 52, 3) := by decide +kernel
theorem dX5_offerChains_53 : decode cX5_offerChains 53 = .ok (.aload_n 0, 1) := by decide +kernel
theorem dX5_offerChains_54 : decode cX5_offerChains 54 = .ok (.getfield 27, 3) := by decide +kernel
theorem dX5_offerChains_57 : decode cX5_offerChains 57 = .ok (.iload 4, 2) := by decide +kernel
theorem dX5_offerChains_59 : decode cX5_offerChains 59 = .ok (.iload 5, 2) := by decide +kernel
theorem dX5_offerChains_61 : decode cX5_offerChains 61 = .ok (.iload 8, 2) := by decide +kernel
theorem dX5_offerChains_63 : decode cX5_offerChains 63 = .ok (.invokevirtual 165, 3) := by decide +kernel
theorem dX5_offerChains_66 : decode cX5_offerChains 66 = .ok (.istore 9, 2) := by decide +kernel
theorem dX5_offerChains_68 : decode cX5_offerChains 68 = .ok (.iload 9, 2) := by decide +kernel
theorem dX5_offerChains_70 : decode cX5_offerChains 70 = .ok (.iconst (-1), 1) := by decide +kernel
theorem dX5_offerChains_71 : decode cX5_offerChains 71 = .ok (.if_icmp .eq 25, 3) := by decide +kernel
theorem dX5_offerChains_74 : decode cX5_offerChains 74 = .ok (.aload_n 0, 1) := by decide +kernel
theorem dX5_offerChains_75 : decode cX5_offerChains 75 = .ok (.iload_n 2, 1) := by decide +kernel
theorem dX5_offerChains_76 : decode cX5_offerChains 76 = .ok (.iload 6, 2) := by decide +kernel
theorem dX5_offerChains_78 : decode cX5_offerChains 78 = .ok (.iload 8, 2) := by decide +kernel
theorem dX5_offerChains_80 : decode cX5_offerChains 80 = .ok (.invokestatic 138, 3) := by decide +kernel
theorem dX5_offerChains_83 : decode cX5_offerChains 83 = .ok (.bipush 8, 2) := by decide +kernel
theorem dX5_offerChains_85 : decode cX5_offerChains 85 = .ok (.iload_n 1, 1) := by decide +kernel
theorem dX5_offerChains_86 : decode cX5_offerChains 86 = .ok (.iload 9, 2) := by decide +kernel
theorem dX5_offerChains_88 : decode cX5_offerChains 88 = .ok (.iload 7, 2) := by decide +kernel
theorem dX5_offerChains_90 : decode cX5_offerChains 90 = .ok (.invokestatic 121, 3) := by decide +kernel
theorem dX5_offerChains_93 : decode cX5_offerChains 93 = .ok (.invokevirtual 125, 3) := by decide +kernel
theorem dX5_offerChains_96 : decode cX5_offerChains 96 = .ok (.iinc 8 1, 3) := by decide +kernel
theorem dX5_offerChains_99 : decode cX5_offerChains 99 = .ok (.goto (-64), 3) := by decide +kernel
theorem dX5_offerChains_102 : decode cX5_offerChains 102 = .ok (.iinc 6 1, 3) := by decide +kernel
theorem dX5_offerChains_105 : decode cX5_offerChains 105 = .ok (.goto (-93), 3) := by decide +kernel
theorem dX5_offerChains_108 : decode cX5_offerChains 108 = .ok (.iinc 5 1, 3) := by decide +kernel
theorem dX5_offerChains_111 : decode cX5_offerChains 111 = .ok (.goto (-108), 3) := by decide +kernel
theorem dX5_offerChains_114 : decode cX5_offerChains 114 = .ok (.return_, 1) := by decide +kernel
theorem dX6_init_0 : decode cX6_init 0 = .ok (.aload_n 0, 1) := by decide +kernel
theorem dX6_init_1 : decode cX6_init 1 = .ok (.invokespecial 3, 3) := by decide +kernel
theorem dX6_init_4 : decode cX6_init 4 = .ok (.aload_n 0, 1) := by decide +kernel
theorem dX6_init_5 : decode cX6_init 5 = .ok (.new 9, 3) := by decide +kernel
theorem dX6_init_8 : decode cX6_init 8 = .ok (.dup, 1) := by decide +kernel
theorem dX6_init_9 : decode cX6_init 9 = .ok (.invokespecial 11, 3) := by decide +kernel
theorem dX6_init_12 : decode cX6_init 12 = .ok (.putfield 12, 3) := by decide +kernel
theorem dX6_init_15 : decode cX6_init 15 = .ok (.aload_n 0, 1) := by decide +kernel
theorem dX6_init_16 : decode cX6_init 16 = .ok (.new 16, 3) := by decide +kernel
theorem dX6_init_19 : decode cX6_init 19 = .ok (.dup, 1) := by decide +kernel
