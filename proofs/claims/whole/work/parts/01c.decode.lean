theorem dX6_init_20 : decode cX6_init 20 = .ok (.invokespecial 18, 3) := by decide +kernel
theorem dX6_init_23 : decode cX6_init 23 = .ok (.putfield 19, 3) := by decide +kernel
theorem dX6_init_26 : decode cX6_init 26 = .ok (.aload_n 0, 1) := by decide +kernel
theorem dX6_init_27 : decode cX6_init 27 = .ok (.new 23, 3) := by decide +kernel
theorem dX6_init_30 : decode cX6_init 30 = .ok (.dup, 1) := by decide +kernel
theorem dX6_init_31 : decode cX6_init 31 = .ok (.invokespecial 25, 3) := by decide +kernel
theorem dX6_init_34 : decode cX6_init 34 = .ok (.putfield 26, 3) := by decide +kernel
theorem dX6_init_37 : decode cX6_init 37 = .ok (.aload_n 0, 1) := by decide +kernel
theorem dX6_init_38 : decode cX6_init 38 = .ok (.new 30, 3) := by decide +kernel
theorem dX6_init_41 : decode cX6_init 41 = .ok (.dup, 1) := by decide +kernel
theorem dX6_init_42 : decode cX6_init 42 = .ok (.invokespecial 32, 3) := by decide +kernel
theorem dX6_init_45 : decode cX6_init 45 = .ok (.putfield 33, 3) := by decide +kernel
theorem dX6_init_48 : decode cX6_init 48 = .ok (.aload_n 0, 1) := by decide +kernel
theorem dX6_init_49 : decode cX6_init 49 = .ok (.new 37, 3) := by decide +kernel
theorem dX6_init_52 : decode cX6_init 52 = .ok (.dup, 1) := by decide +kernel
theorem dX6_init_53 : decode cX6_init 53 = .ok (.aload_n 0, 1) := by decide +kernel
theorem dX6_init_54 : decode cX6_init 54 = .ok (.getfield 12, 3) := by decide +kernel
theorem dX6_init_57 : decode cX6_init 57 = .ok (.aload_n 0, 1) := by decide +kernel
theorem dX6_init_58 : decode cX6_init 58 = .ok (.getfield 19, 3) := by decide +kernel
theorem dX6_init_61 : decode cX6_init 61 = .ok (.aload_n 0, 1) := by decide +kernel
theorem dX6_init_62 : decode cX6_init 62 = .ok (.getfield 26, 3) := by decide +kernel
theorem dX6_init_65 : decode cX6_init 65 = .ok (.aload_n 0, 1) := by decide +kernel
theorem dX6_init_66 : decode cX6_init 66 = .ok (.getfield 33, 3) := by decide +kernel
theorem dX6_init_69 : decode cX6_init 69 = .ok (.invokespecial 39, 3) := by decide +kernel
theorem dX6_init_72 : decode cX6_init 72 = .ok (.putfield 42, 3) := by decide +kernel
theorem dX6_init_75 : decode cX6_init 75 = .ok (.aload_n 0, 1) := by decide +kernel
theorem dX6_init_76 : decode cX6_init 76 = .ok (.new 46, 3) := by decide +kernel
theorem dX6_init_79 : decode cX6_init 79 = .ok (.dup, 1) := by decide +kernel
theorem dX6_init_80 : decode cX6_init 80 = .ok (.invokespecial 48, 3) := by decide +kernel
theorem dX6_init_83 : decode cX6_init 83 = .ok (.putfield 49, 3) := by decide +kernel
theorem dX6_init_86 : decode cX6_init 86 = .ok (.aload_n 0, 1) := by decide +kernel
theorem dX6_init_87 : decode cX6_init 87 = .ok (.iconst 0, 1) := by decide +kernel
theorem dX6_init_88 : decode cX6_init 88 = .ok (.putfield 53, 3) := by decide +kernel
theorem dX6_init_91 : decode cX6_init 91 = .ok (.aload_n 0, 1) := by decide +kernel
theorem dX6_init_92 : decode cX6_init 92 = .ok (.iconst 0, 1) := by decide +kernel
theorem dX6_init_93 : decode cX6_init 93 = .ok (.putfield 57, 3) := by decide +kernel
theorem dX6_init_96 : decode cX6_init 96 = .ok (.return_, 1) := by decide +kernel
theorem dX6_make_0 : decode cX6_make 0 = .ok (.aload_n 0, 1) := by decide +kernel
theorem dX6_make_1 : decode cX6_make 1 = .ok (.getfield 12, 3) := by decide +kernel
theorem dX6_make_4 : decode cX6_make 4 = .ok (.getfield 61, 3) := by decide +kernel
theorem dX6_make_7 : decode cX6_make 7 = .ok (.bipush 10, 2) := by decide +kernel
theorem dX6_make_9 : decode cX6_make 9 = .ok (.if_icmp .lt 6, 3) := by decide +kernel
theorem dX6_make_12 : decode cX6_make 12 = .ok (.bipush (-104), 2) := by decide +kernel
theorem dX6_make_14 : decode cX6_make 14 = .ok (.ireturn, 1) := by decide +kernel
theorem dX6_make_15 : decode cX6_make 15 = .ok (.aload_n 0, 1) := by decide +kernel
theorem dX6_make_16 : decode cX6_make 16 = .ok (.iconst 2, 1) := by decide +kernel
theorem dX6_make_17 : decode cX6_make 17 = .ok (.iconst (-1), 1) := by decide +kernel
theorem dX6_make_18 : decode cX6_make 18 = .ok (.iconst (-1), 1) := by decide +kernel
theorem dX6_make_19 : decode cX6_make 19 = .ok (.invokevirtual 64, 3) := by decide +kernel
theorem dX6_make_22 : decode cX6_make 22 = .ok (.ireturn, 1) := by decide +kernel
theorem dX6_meet_0 : decode cX6_meet 0 = .ok (.aload_n 0, 1) := by decide +kernel
theorem dX6_meet_1 : decode cX6_meet 1 = .ok (.getfield 12, 3) := by decide +kernel
theorem dX6_meet_4 : decode cX6_meet 4 = .ok (.iload_n 1, 1) := by decide +kernel
theorem dX6_meet_5 : decode cX6_meet 5 = .ok (.invokevirtual 68, 3) := by decide +kernel
theorem dX6_meet_8 : decode cX6_meet 8 = .ok (.ifCond .eq 14, 3) := by decide +kernel
theorem dX6_meet_11 : decode cX6_meet 11 = .ok (.aload_n 0, 1) := by decide +kernel
theorem dX6_meet_12 : decode cX6_meet 12 = .ok (.getfield 12, 3) := by decide +kernel
theorem dX6_meet_15 : decode cX6_meet 15 = .ok (.iload_n 2, 1) := by decide +kernel
theorem dX6_meet_16 : decode cX6_meet 16 = .ok (.invokevirtual 68, 3) := by decide +kernel
theorem dX6_meet_19 : decode cX6_meet 19 = .ok (.ifCond .ne 6, 3) := by decide +kernel
theorem dX6_meet_22 : decode cX6_meet 22 = .ok (.bipush (-101), 2) := by decide +kernel
theorem dX6_meet_24 : decode cX6_meet 24 = .ok (.ireturn, 1) := by decide +kernel
theorem dX6_meet_25 : decode cX6_meet 25 = .ok (.iload_n 1, 1) := by decide +kernel
theorem dX6_meet_26 : decode cX6_meet 26 = .ok (.iload_n 2, 1) := by decide +kernel
theorem dX6_meet_27 : decode cX6_meet 27 = .ok (.if_icmp .ne 5, 3) := by decide +kernel
theorem dX6_meet_30 : decode cX6_meet 30 = .ok (.iload_n 1, 1) := by decide +kernel
theorem dX6_meet_31 : decode cX6_meet 31 = .ok (.ireturn, 1) := by decide +kernel
theorem dX6_meet_32 : decode cX6_meet 32 = .ok (.aload_n 0, 1) := by decide +kernel
theorem dX6_meet_33 : decode cX6_meet 33 = .ok (.iconst 3, 1) := by decide +kernel
theorem dX6_meet_34 : decode cX6_meet 34 = .ok (.iload_n 1, 1) := by decide +kernel
theorem dX6_meet_35 : decode cX6_meet 35 = .ok (.iload_n 2, 1) := by decide +kernel
theorem dX6_meet_36 : decode cX6_meet 36 = .ok (.invokestatic 72, 3) := by decide +kernel
theorem dX6_meet_39 : decode cX6_meet 39 = .ok (.iload_n 1, 1) := by decide +kernel
theorem dX6_meet_40 : decode cX6_meet 40 = .ok (.iload_n 2, 1) := by decide +kernel
theorem dX6_meet_41 : decode cX6_meet 41 = .ok (.invokestatic 78, 3) := by decide +kernel
theorem dX6_meet_44 : decode cX6_meet 44 = .ok (.invokevirtual 81, 3) := by decide +kernel
theorem dX6_meet_47 : decode cX6_meet 47 = .ok (.ireturn, 1) := by decide +kernel
theorem dX6_has_0 : decode cX6_has 0 = .ok (.aload_n 0, 1) := by decide +kernel
theorem dX6_has_1 : decode cX6_has 1 = .ok (.getfield 12, 3) := by decide +kernel
theorem dX6_has_4 : decode cX6_has 4 = .ok (.iload_n 2, 1) := by decide +kernel
theorem dX6_has_5 : decode cX6_has 5 = .ok (.invokevirtual 68, 3) := by decide +kernel
theorem dX6_has_8 : decode cX6_has 8 = .ok (.ifCond .ne 6, 3) := by decide +kernel
theorem dX6_has_11 : decode cX6_has 11 = .ok (.bipush (-101), 2) := by decide +kernel
theorem dX6_has_13 : decode cX6_has 13 = .ok (.ireturn, 1) := by decide +kernel
theorem dX6_has_14 : decode cX6_has 14 = .ok (.iload_n 1, 1) := by decide +kernel
theorem dX6_has_15 : decode cX6_has 15 = .ok (.invokestatic 84, 3) := by decide +kernel
theorem dX6_has_18 : decode cX6_has 18 = .ok (.ifCond .ne 6, 3) := by decide +kernel
theorem dX6_has_21 : decode cX6_has 21 = .ok (.bipush (-102), 2) := by decide +kernel
theorem dX6_has_23 : decode cX6_has 23 = .ok (.ireturn, 1) := by decide +kernel
theorem dX6_has_24 : decode cX6_has 24 = .ok (.aload_n 0, 1) := by decide +kernel
theorem dX6_has_25 : decode cX6_has 25 = .ok (.iconst 4, 1) := by decide +kernel
theorem dX6_has_26 : decode cX6_has 26 = .ok (.iload_n 1, 1) := by decide +kernel
theorem dX6_has_27 : decode cX6_has 27 = .ok (.iload_n 2, 1) := by decide +kernel
theorem dX6_has_28 : decode cX6_has 28 = .ok (.invokevirtual 81, 3) := by decide +kernel
theorem dX6_has_31 : decode cX6_has 31 = .ok (.ireturn, 1) := by decide +kernel
theorem dX6_say_0 : decode cX6_say 0 = .ok (.aload_n 0, 1) := by decide +kernel
theorem dX6_say_1 : decode cX6_say 1 = .ok (.getfield 12, 3) := by decide +kernel
theorem dX6_say_4 : decode cX6_say 4 = .ok (.iload_n 1, 1) := by decide +kernel
theorem dX6_say_5 : decode cX6_say 5 = .ok (.invokevirtual 68, 3) := by decide +kernel
theorem dX6_say_8 : decode cX6_say 8 = .ok (.ifCond .eq 14, 3) := by decide +kernel
theorem dX6_say_11 : decode cX6_say 11 = .ok (.aload_n 0, 1) := by decide +kernel
theorem dX6_say_12 : decode cX6_say 12 = .ok (.getfield 12, 3) := by decide +kernel
theorem dX6_say_15 : decode cX6_say 15 = .ok (.iload_n 2, 1) := by decide +kernel
theorem dX6_say_16 : decode cX6_say 16 = .ok (.invokevirtual 68, 3) := by decide +kernel
theorem dX6_say_19 : decode cX6_say 19 = .ok (.ifCond .ne 6, 3) := by decide +kernel
theorem dX6_say_22 : decode cX6_say 22 = .ok (.bipush (-101), 2) := by decide +kernel
theorem dX6_say_24 : decode cX6_say 24 = .ok (.ireturn, 1) := by decide +kernel
theorem dX6_say_25 : decode cX6_say 25 = .ok (.aload_n 0, 1) := by decide +kernel
theorem dX6_say_26 : decode cX6_say 26 = .ok (.iconst 0, 1) := by decide +kernel
theorem dX6_say_27 : decode cX6_say 27 = .ok (.iload_n 1, 1) := by decide +kernel
theorem dX6_say_28 : decode cX6_say 28 = .ok (.iload_n 2, 1) := by decide +kernel
theorem dX6_say_29 : decode cX6_say 29 = .ok (.iconst (-1), 1) := by decide +kernel
theorem dX6_say_30 : decode cX6_say 30 = .ok (.invokevirtual 87, 3) := by decide +kernel
theorem dX6_say_33 : decode cX6_say 33 = .ok (.ireturn, 1) := by decide +kernel
theorem dX6_role_0 : decode cX6_role 0 = .ok (.iload_n 1, 1) := by decide +kernel
theorem dX6_role_1 : decode cX6_role 1 = .ok (.invokestatic 84, 3) := by decide +kernel
theorem dX6_role_4 : decode cX6_role 4 = .ok (.ifCond .eq 10, 3) := by decide +kernel
theorem dX6_role_7 : decode cX6_role 7 = .ok (.iload_n 2, 1) := by decide +kernel
theorem dX6_role_8 : decode cX6_role 8 = .ok (.invokestatic 84, 3) := by decide +kernel
theorem dX6_role_11 : decode cX6_role 11 = .ok (.ifCond .ne 6, 3) := by decide +kernel
theorem dX6_role_14 : decode cX6_role 14 = .ok (.bipush (-102), 2) := by decide +kernel
theorem dX6_role_16 : decode cX6_role 16 = .ok (.ireturn, 1) := by decide +kernel
theorem dX6_role_17 : decode cX6_role 17 = .ok (.aload_n 0, 1) := by decide +kernel
theorem dX6_role_18 : decode cX6_role 18 = .ok (.iconst 1, 1) := by decide +kernel
theorem dX6_role_19 : decode cX6_role 19 = .ok (.iload_n 1, 1) := by decide +kernel
theorem dX6_role_20 : decode cX6_role 20 = .ok (.iload_n 2, 1) := by decide +kernel
theorem dX6_role_21 : decode cX6_role 21 = .ok (.iconst (-1), 1) := by decide +kernel
theorem dX6_role_22 : decode cX6_role 22 = .ok (.invokevirtual 87, 3) := by decide +kernel
theorem dX6_role_25 : decode cX6_role 25 = .ok (.ireturn, 1) := by decide +kernel
theorem dX6_chain_0 : decode cX6_chain 0 = .ok (.iload_n 1, 1) := by decide +kernel
theorem dX6_chain_1 : decode cX6_chain 1 = .ok (.invokestatic 84, 3) := by decide +kernel
theorem dX6_chain_4 : decode cX6_chain 4 = .ok (.ifCond .eq 17, 3) := by decide +kernel
theorem dX6_chain_7 : decode cX6_chain 7 = .ok (.iload_n 2, 1) := by decide +kernel
theorem dX6_chain_8 : decode cX6_chain 8 = .ok (.invokestatic 84, 3) := by decide +kernel
theorem dX6_chain_11 : decode cX6_chain 11 = .ok (.ifCond .eq 10, 3) := by decide +kernel
theorem dX6_chain_14 : decode cX6_chain 14 = .ok (.iload_n 3, 1) := by decide +kernel
theorem dX6_chain_15 : decode cX6_chain 15 = .ok (.invokestatic 84, 3) := by decide +kernel
theorem dX6_chain_18 : decode cX6_chain 18 = .ok (.ifCond .ne 6, 3) := by decide +kernel
theorem dX6_chain_21 : decode cX6_chain 21 = .ok (.bipush (-102), 2) := by decide +kernel
theorem dX6_chain_23 : decode cX6_chain 23 = .ok (.ireturn, 1) := by decide +kernel
theorem dX6_chain_24 : decode cX6_chain 24 = .ok (.aload_n 0, 1) := by decide +kernel
theorem dX6_chain_25 : decode cX6_chain 25 = .ok (.iconst 2, 1) := by decide +kernel
theorem dX6_chain_26 : decode cX6_chain 26 = .ok (.iload_n 1, 1) := by decide +kernel
theorem dX6_chain_27 : decode cX6_chain 27 = .ok (.iload_n 2, 1) := by decide +kernel
theorem dX6_chain_28 : decode cX6_chain 28 = .ok (.iload_n 3, 1) := by decide +kernel
theorem dX6_chain_29 : decode cX6_chain 29 = .ok (.invokevirtual 87, 3) := by decide +kernel
theorem dX6_chain_32 : decode cX6_chain 32 = .ok (.ireturn, 1) := by decide +kernel
theorem dX6_unsay_0 : decode cX6_unsay 0 = .ok (.aload_n 0, 1) := by decide +kernel
theorem dX6_unsay_1 : decode cX6_unsay 1 = .ok (.getfield 19, 3) := by decide +kernel
theorem dX6_unsay_4 : decode cX6_unsay 4 = .ok (.iload_n 1, 1) := by decide +kernel
theorem dX6_unsay_5 : decode cX6_unsay 5 = .ok (.invokevirtual 91, 3) := by decide +kernel
theorem dX6_unsay_8 : decode cX6_unsay 8 = .ok (.ifCond .ne 6, 3) := by decide +kernel
theorem dX6_unsay_11 : decode cX6_unsay 11 = .ok (.bipush (-101), 2) := by decide +kernel
theorem dX6_unsay_13 : decode cX6_unsay 13 = .ok (.ireturn, 1) := by decide +kernel
theorem dX6_unsay_14 : decode cX6_unsay 14 = .ok (.aload_n 0, 1) := by decide +kernel
theorem dX6_unsay_15 : decode cX6_unsay 15 = .ok (.getfield 19, 3) := by decide +kernel
theorem dX6_unsay_18 : decode cX6_unsay 18 = .ok (.iload_n 1, 1) := by decide +kernel
theorem dX6_unsay_19 : decode cX6_unsay 19 = .ok (.invokevirtual 94, 3) := by decide +kernel
theorem dX6_unsay_22 : decode cX6_unsay 22 = .ok (.aload_n 0, 1) := by decide +kernel
theorem dX6_unsay_23 : decode cX6_unsay 23 = .ok (.iconst 0, 1) := by decide +kernel
theorem dX6_unsay_24 : decode cX6_unsay 24 = .ok (.putfield 57, 3) := by decide +kernel
theorem dX6_unsay_27 : decode cX6_unsay 27 = .ok (.iconst 1, 1) := by decide +kernel
theorem dX6_unsay_28 : decode cX6_unsay 28 = .ok (.ireturn, 1) := by decide +kernel
theorem dX6_notion_0 : decode cX6_notion 0 = .ok (.aload_n 0, 1) := by decide +kernel
theorem dX6_notion_1 : decode cX6_notion 1 = .ok (.getfield 12, 3) := by decide +kernel
theorem dX6_notion_4 : decode cX6_notion 4 = .ok (.iload_n 1, 1) := by decide +kernel
theorem dX6_notion_5 : decode cX6_notion 5 = .ok (.invokevirtual 68, 3) := by decide +kernel
theorem dX6_notion_8 : decode cX6_notion 8 = .ok (.ifCond .ne 6, 3) := by decide +kernel
theorem dX6_notion_11 : decode cX6_notion 11 = .ok (.bipush (-101), 2) := by decide +kernel
theorem dX6_notion_13 : decode cX6_notion 13 = .ok (.ireturn, 1) := by decide +kernel
theorem dX6_notion_14 : decode cX6_notion 14 = .ok (.iload_n 2, 1) := by decide +kernel
theorem dX6_notion_15 : decode cX6_notion 15 = .ok (.iconst 3, 1) := by decide +kernel
theorem dX6_notion_16 : decode cX6_notion 16 = .ok (.invokestatic 98, 3) := by decide +kernel
theorem dX6_notion_19 : decode cX6_notion 19 = .ok (.ifCond .ne 6, 3) := by decide +kernel
theorem dX6_notion_22 : decode cX6_notion 22 = .ok (.bipush (-102), 2) := by decide +kernel
theorem dX6_notion_24 : decode cX6_notion 24 = .ok (.ireturn, 1) := by decide +kernel
theorem dX6_notion_25 : decode cX6_notion 25 = .ok (.aload_n 0, 1) := by decide +kernel
theorem dX6_notion_26 : decode cX6_notion 26 = .ok (.getfield 12, 3) := by decide +kernel
theorem dX6_notion_29 : decode cX6_notion 29 = .ok (.iload_n 1, 1) := by decide +kernel
theorem dX6_notion_30 : decode cX6_notion 30 = .ok (.iload_n 2, 1) := by decide +kernel
theorem dX6_notion_31 : decode cX6_notion 31 = .ok (.invokevirtual 102, 3) := by decide +kernel
theorem dX6_notion_34 : decode cX6_notion 34 = .ok (.ireturn, 1) := by decide +kernel
theorem dX6_axiom_0 : decode cX6_axiom 0 = .ok (.aload_n 0, 1) := by decide +kernel
theorem dX6_axiom_1 : decode cX6_axiom 1 = .ok (.getfield 19, 3) := by decide +kernel
theorem dX6_axiom_4 : decode cX6_axiom 4 = .ok (.iload_n 1, 1) := by decide +kernel
theorem dX6_axiom_5 : decode cX6_axiom 5 = .ok (.invokevirtual 105, 3) := by decide +kernel
theorem dX6_axiom_8 : decode cX6_axiom 8 = .ok (.ifCond .ne 6, 3) := by decide +kernel
theorem dX6_axiom_11 : decode cX6_axiom 11 = .ok (.bipush (-101), 2) := by decide +kernel
theorem dX6_axiom_13 : decode cX6_axiom 13 = .ok (.ireturn, 1) := by decide +kernel
theorem dX6_axiom_14 : decode cX6_axiom 14 = .ok (.iload_n 2, 1) := by decide +kernel
theorem dX6_axiom_15 : decode cX6_axiom 15 = .ok (.iconst 5, 1) := by decide +kernel
theorem dX6_axiom_16 : decode cX6_axiom 16 = .ok (.invokestatic 98, 3) := by decide +kernel
theorem dX6_axiom_19 : decode cX6_axiom 19 = .ok (.ifCond .ne 6, 3) := by decide +kernel
theorem dX6_axiom_22 : decode cX6_axiom 22 = .ok (.bipush (-102), 2) := by decide +kernel
theorem dX6_axiom_24 : decode cX6_axiom 24 = .ok (.ireturn, 1) := by decide +kernel
theorem dX6_axiom_25 : decode cX6_axiom 25 = .ok (.aload_n 0, 1) := by decide +kernel
theorem dX6_axiom_26 : decode cX6_axiom 26 = .ok (.getfield 19, 3) := by decide +kernel
theorem dX6_axiom_29 : decode cX6_axiom 29 = .ok (.iload_n 1, 1) := by decide +kernel
theorem dX6_axiom_30 : decode cX6_axiom 30 = .ok (.iload_n 2, 1) := by decide +kernel
theorem dX6_axiom_31 : decode cX6_axiom 31 = .ok (.invokevirtual 106, 3) := by decide +kernel
theorem dX6_axiom_34 : decode cX6_axiom 34 = .ok (.ireturn, 1) := by decide +kernel
theorem dX6_conclude_0 : decode cX6_conclude 0 = .ok (.aload_n 0, 1) := by decide +kernel
theorem dX6_conclude_1 : decode cX6_conclude 1 = .ok (.getfield 53, 3) := by decide +kernel
theorem dX6_conclude_4 : decode cX6_conclude 4 = .ok (.bipush 20, 2) := by decide +kernel
theorem dX6_conclude_6 : decode cX6_conclude 6 = .ok (.if_icmp .lt 6, 3) := by decide +kernel
theorem dX6_conclude_9 : decode cX6_conclude 9 = .ok (.bipush (-103), 2) := by decide +kernel
theorem dX6_conclude_11 : decode cX6_conclude 11 = .ok (.ireturn, 1) := by decide +kernel
theorem dX6_conclude_12 : decode cX6_conclude 12 = .ok (.aload_n 0, 1) := by decide +kernel
theorem dX6_conclude_13 : decode cX6_conclude 13 = .ok (.dup, 1) := by decide +kernel
theorem dX6_conclude_14 : decode cX6_conclude 14 = .ok (.getfield 53, 3) := by decide +kernel
theorem dX6_conclude_17 : decode cX6_conclude 17 = .ok (.iconst 1, 1) := by decide +kernel
theorem dX6_conclude_18 : decode cX6_conclude 18 = .ok (.iadd, 1) := by decide +kernel
theorem dX6_conclude_19 : decode cX6_conclude 19 = .ok (.putfield 53, 3) := by decide +kernel
theorem dX6_conclude_22 : decode cX6_conclude 22 = .ok (.aload_n 0, 1) := by decide +kernel
theorem dX6_conclude_23 : decode cX6_conclude 23 = .ok (.getfield 42, 3) := by decide +kernel
theorem dX6_conclude_26 : decode cX6_conclude 26 = .ok (.invokevirtual 107, 3) := by decide +kernel
theorem dX6_conclude_29 : decode cX6_conclude 29 = .ok (.aload_n 0, 1) := by decide +kernel
theorem dX6_conclude_30 : decode cX6_conclude 30 = .ok (.getfield 49, 3) := by decide +kernel
theorem dX6_conclude_33 : decode cX6_conclude 33 = .ok (.aload_n 0, 1) := by decide +kernel
theorem dX6_conclude_34 : decode cX6_conclude 34 = .ok (.getfield 12, 3) := by decide +kernel
theorem dX6_conclude_37 : decode cX6_conclude 37 = .ok (.aload_n 0, 1) := by decide +kernel
theorem dX6_conclude_38 : decode cX6_conclude 38 = .ok (.getfield 26, 3) := by decide +kernel
theorem dX6_conclude_41 : decode cX6_conclude 41 = .ok (.aload_n 0, 1) := by decide +kernel
theorem dX6_conclude_42 : decode cX6_conclude 42 = .ok (.getfield 33, 3) := by decide +kernel
theorem dX6_conclude_45 : decode cX6_conclude 45 = .ok (.invokevirtual 110, 3) := by decide +kernel
theorem dX6_conclude_48 : decode cX6_conclude 48 = .ok (.aload_n 0, 1) := by decide +kernel
theorem dX6_conclude_49 : decode cX6_conclude 49 = .ok (.iconst 1, 1) := by decide +kernel
theorem dX6_conclude_50 : decode cX6_conclude 50 = .ok (.putfield 57, 3) := by decide +kernel
theorem dX6_conclude_53 : decode cX6_conclude 53 = .ok (.aload_n 0, 1) := by decide +kernel
theorem dX6_conclude_54 : decode cX6_conclude 54 = .ok (.getfield 33, 3) := by decide +kernel
theorem dX6_conclude_57 : decode cX6_conclude 57 = .ok (.getfield 114, 3) := by decide +kernel
theorem dX6_conclude_60 : decode cX6_conclude 60 = .ok (.ireturn, 1) := by decide +kernel
theorem dX6_rounds_0 : decode cX6_rounds 0 = .ok (.aload_n 0, 1) := by decide +kernel
theorem dX6_rounds_1 : decode cX6_rounds 1 = .ok (.getfield 57, 3) := by decide +kernel
theorem dX6_rounds_4 : decode cX6_rounds 4 = .ok (.ifCond .eq 13, 3) := by decide +kernel
theorem dX6_rounds_7 : decode cX6_rounds 7 = .ok (.aload_n 0, 1) := by decide +kernel
theorem dX6_rounds_8 : decode cX6_rounds 8 = .ok (.getfield 33, 3) := by decide +kernel
theorem dX6_rounds_11 : decode cX6_rounds 11 = .ok (.getfield 117, 3) := by decide +kernel
theorem dX6_rounds_14 : decode cX6_rounds 14 = .ok (.goto 5, 3) := by decide +kernel
theorem dX6_rounds_17 : decode cX6_rounds 17 = .ok (.bipush (-103), 2) := by decide +kernel
theorem dX6_rounds_19 : decode cX6_rounds 19 = .ok (.ireturn, 1) := by decide +kernel
theorem dX6_conclusion_0 : decode cX6_conclusion 0 = .ok (.aload_n 0, 1) := by decide +kernel
theorem dX6_conclusion_1 : decode cX6_conclusion 1 = .ok (.getfield 57, 3) := by decide +kernel
theorem dX6_conclusion_4 : decode cX6_conclusion 4 = .ok (.ifCond .ne 6, 3) := by decide +kernel
theorem dX6_conclusion_7 : decode cX6_conclusion 7 = .ok (.bipush (-103), 2) := by decide +kernel
theorem dX6_conclusion_9 : decode cX6_conclusion 9 = .ok (.ireturn, 1) := by decide +kernel
theorem dX6_conclusion_10 : decode cX6_conclusion 10 = .ok (.aload_n 0, 1) := by decide +kernel
theorem dX6_conclusion_11 : decode cX6_conclusion 11 = .ok (.getfield 33, 3) := by decide +kernel
theorem dX6_conclusion_14 : decode cX6_conclusion 14 = .ok (.iload_n 1, 1) := by decide +kernel
theorem dX6_conclusion_15 : decode cX6_conclusion 15 = .ok (.invokevirtual 120, 3) := by decide +kernel
theorem dX6_conclusion_18 : decode cX6_conclusion 18 = .ok (.ifCond .ne 6, 3) := by decide +kernel
theorem dX6_conclusion_21 : decode cX6_conclusion 21 = .ok (.bipush (-101), 2) := by decide +kernel
theorem dX6_conclusion_23 : decode cX6_conclusion 23 = .ok (.ireturn, 1) := by decide +kernel
theorem dX6_conclusion_24 : decode cX6_conclusion 24 = .ok (.iload_n 2, 1) := by decide +kernel
theorem dX6_conclusion_25 : decode cX6_conclusion 25 = .ok (.bipush 9, 2) := by decide +kernel
theorem dX6_conclusion_27 : decode cX6_conclusion 27 = .ok (.invokestatic 98, 3) := by decide +kernel
theorem dX6_conclusion_30 : decode cX6_conclusion 30 = .ok (.ifCond .ne 6, 3) := by decide +kernel
theorem dX6_conclusion_33 : decode cX6_conclusion 33 = .ok (.bipush (-102), 2) := by decide +kernel
theorem dX6_conclusion_35 : decode cX6_conclusion 35 = .ok (.ireturn, 1) := by decide +kernel
theorem dX6_conclusion_36 : decode cX6_conclusion 36 = .ok (.aload_n 0, 1) := by decide +kernel
theorem dX6_conclusion_37 : decode cX6_conclusion 37 = .ok (.getfield 33, 3) := by decide +kernel
theorem dX6_conclusion_40 : decode cX6_conclusion 40 = .ok (.iload_n 1, 1) := by decide +kernel
theorem dX6_conclusion_41 : decode cX6_conclusion 41 = .ok (.iload_n 2, 1) := by decide +kernel
theorem dX6_conclusion_42 : decode cX6_conclusion 42 = .ok (.invokevirtual 121, 3) := by decide +kernel
theorem dX6_conclusion_45 : decode cX6_conclusion 45 = .ok (.ireturn, 1) := by decide +kernel
theorem dX6_is_0 : decode cX6_is 0 = .ok (.aload_n 0, 1) := by decide +kernel
theorem dX6_is_1 : decode cX6_is 1 = .ok (.getfield 57, 3) := by decide +kernel
theorem dX6_is_4 : decode cX6_is 4 = .ok (.ifCond .ne 6, 3) := by decide +kernel
theorem dX6_is_7 : decode cX6_is 7 = .ok (.bipush (-103), 2) := by decide +kernel
theorem dX6_is_9 : decode cX6_is 9 = .ok (.ireturn, 1) := by decide +kernel
theorem dX6_is_10 : decode cX6_is 10 = .ok (.aload_n 0, 1) := by decide +kernel
theorem dX6_is_11 : decode cX6_is 11 = .ok (.getfield 12, 3) := by decide +kernel
theorem dX6_is_14 : decode cX6_is 14 = .ok (.iload_n 1, 1) := by decide +kernel
theorem dX6_is_15 : decode cX6_is 15 = .ok (.invokevirtual 68, 3) := by decide +kernel
theorem dX6_is_18 : decode cX6_is 18 = .ok (.ifCond .eq 14, 3) := by decide +kernel
theorem dX6_is_21 : decode cX6_is 21 = .ok (.aload_n 0, 1) := by decide +kernel
theorem dX6_is_22 : decode cX6_is 22 = .ok (.getfield 12, 3) := by decide +kernel
theorem dX6_is_25 : decode cX6_is 25 = .ok (.iload_n 2, 1) := by decide +kernel
theorem dX6_is_26 : decode cX6_is 26 = .ok (.invokevirtual 68, 3) := by decide +kernel
theorem dX6_is_29 : decode cX6_is 29 = .ok (.ifCond .ne 6, 3) := by decide +kernel
theorem dX6_is_32 : decode cX6_is 32 = .ok (.bipush (-101), 2) := by decide +kernel
theorem dX6_is_34 : decode cX6_is 34 = .ok (.ireturn, 1) := by decide +kernel
theorem dX6_is_35 : decode cX6_is 35 = .ok (.aload_n 0, 1) := by decide +kernel
theorem dX6_is_36 : decode cX6_is 36 = .ok (.getfield 33, 3) := by decide +kernel
theorem dX6_is_39 : decode cX6_is 39 = .ok (.iload_n 1, 1) := by decide +kernel
theorem dX6_is_40 : decode cX6_is 40 = .ok (.iload_n 2, 1) := by decide +kernel
theorem dX6_is_41 : decode cX6_is 41 = .ok (.invokevirtual 122, 3) := by decide +kernel
theorem dX6_is_44 : decode cX6_is 44 = .ok (.ireturn, 1) := by decide +kernel
theorem dX6_to_0 : decode cX6_to 0 = .ok (.aload_n 0, 1) := by decide +kernel
theorem dX6_to_1 : decode cX6_to 1 = .ok (.getfield 57, 3) := by decide +kernel
theorem dX6_to_4 : decode cX6_to 4 = .ok (.ifCond .ne 6, 3) := by decide +kernel
theorem dX6_to_7 : decode cX6_to 7 = .ok (.bipush (-103), 2) := by decide +kernel
theorem dX6_to_9 : decode cX6_to 9 = .ok (.ireturn, 1) := by decide +kernel
theorem dX6_to_10 : decode cX6_to 10 = .ok (.aload_n 0, 1) := by decide +kernel
theorem dX6_to_11 : decode cX6_to 11 = .ok (.getfield 12, 3) := by decide +kernel
theorem dX6_to_14 : decode cX6_to 14 = .ok (.iload_n 1, 1) := by decide +kernel
theorem dX6_to_15 : decode cX6_to 15 = .ok (.invokevirtual 68, 3) := by decide +kernel
theorem dX6_to_18 : decode cX6_to 18 = .ok (.ifCond .eq 14, 3) := by decide +kernel
theorem dX6_to_21 : decode cX6_to 21 = .ok (.aload_n 0, 1) := by decide +kernel
theorem dX6_to_22 : decode cX6_to 22 = .ok (.getfield 12, 3) := by decide +kernel
theorem dX6_to_25 : decode cX6_to 25 = .ok (.iload_n 3, 1) := by decide +kernel
theorem dX6_to_26 : decode cX6_to 26 = .ok (.invokevirtual 68, 3) := by decide +kernel
theorem dX6_to_29 : decode cX6_to 29 = .ok (.ifCond .ne 6, 3) := by decide +kernel
theorem dX6_to_32 : decode cX6_to 32 = .ok (.bipush (-101), 2) := by decide +kernel
theorem dX6_to_34 : decode cX6_to 34 = .ok (.ireturn, 1) := by decide +kernel
theorem dX6_to_35 : decode cX6_to 35 = .ok (.iload_n 2, 1) := by decide +kernel
theorem dX6_to_36 : decode cX6_to 36 = .ok (.invokestatic 84, 3) := by decide +kernel
theorem dX6_to_39 : decode cX6_to 39 = .ok (.ifCond .ne 6, 3) := by decide +kernel
theorem dX6_to_42 : decode cX6_to 42 = .ok (.bipush (-102), 2) := by decide +kernel
theorem dX6_to_44 : decode cX6_to 44 = .ok (.ireturn, 1) := by decide +kernel
theorem dX6_to_45 : decode cX6_to 45 = .ok (.aload_n 0, 1) := by decide +kernel
theorem dX6_to_46 : decode cX6_to 46 = .ok (.getfield 33, 3) := by decide +kernel
theorem dX6_to_49 : decode cX6_to 49 = .ok (.iload_n 1, 1) := by decide +kernel
theorem dX6_to_50 : decode cX6_to 50 = .ok (.iload_n 2, 1) := by decide +kernel
theorem dX6_to_51 : decode cX6_to 51 = .ok (.iload_n 3, 1) := by decide +kernel
theorem dX6_to_52 : decode cX6_to 52 = .ok (.invokevirtual 125, 3) := by decide +kernel
theorem dX6_to_55 : decode cX6_to 55 = .ok (.ireturn, 1) := by decide +kernel
theorem dX6_proof_0 : decode cX6_proof 0 = .ok (.aload_n 0, 1) := by decide +kernel
theorem dX6_proof_1 : decode cX6_proof 1 = .ok (.getfield 57, 3) := by decide +kernel
theorem dX6_proof_4 : decode cX6_proof 4 = .ok (.ifCond .ne 6, 3) := by decide +kernel
theorem dX6_proof_7 : decode cX6_proof 7 = .ok (.bipush (-103), 2) := by decide +kernel
theorem dX6_proof_9 : decode cX6_proof 9 = .ok (.ireturn, 1) := by decide +kernel
theorem dX6_proof_10 : decode cX6_proof 10 = .ok (.aload_n 0, 1) := by decide +kernel
theorem dX6_proof_11 : decode cX6_proof 11 = .ok (.getfield 33, 3) := by decide +kernel
theorem dX6_proof_14 : decode cX6_proof 14 = .ok (.iload_n 1, 1) := by decide +kernel
theorem dX6_proof_15 : decode cX6_proof 15 = .ok (.invokevirtual 120, 3) := by decide +kernel
theorem dX6_proof_18 : decode cX6_proof 18 = .ok (.ifCond .ne 6, 3) := by decide +kernel
theorem dX6_proof_21 : decode cX6_proof 21 = .ok (.bipush (-101), 2) := by decide +kernel
theorem dX6_proof_23 : decode cX6_proof 23 = .ok (.ireturn, 1) := by decide +kernel
theorem dX6_proof_24 : decode cX6_proof 24 = .ok (.aload_n 0, 1) := by decide +kernel
theorem dX6_proof_25 : decode cX6_proof 25 = .ok (.getfield 33, 3) := by decide +kernel
theorem dX6_proof_28 : decode cX6_proof 28 = .ok (.iload_n 1, 1) := by decide +kernel
theorem dX6_proof_29 : decode cX6_proof 29 = .ok (.invokevirtual 128, 3) := by decide +kernel
theorem dX6_proof_32 : decode cX6_proof 32 = .ok (.ireturn, 1) := by decide +kernel
theorem dX6_under_0 : decode cX6_under 0 = .ok (.aload_n 0, 1) := by decide +kernel
theorem dX6_under_1 : decode cX6_under 1 = .ok (.getfield 57, 3) := by decide +kernel
theorem dX6_under_4 : decode cX6_under 4 = .ok (.ifCond .ne 6, 3) := by decide +kernel
theorem dX6_under_7 : decode cX6_under 7 = .ok (.bipush (-103), 2) := by decide +kernel
theorem dX6_under_9 : decode cX6_under 9 = .ok (.ireturn, 1) := by decide +kernel
theorem dX6_under_10 : decode cX6_under 10 = .ok (.aload_n 0, 1) := by decide +kernel
theorem dX6_under_11 : decode cX6_under 11 = .ok (.getfield 12, 3) := by decide +kernel
theorem dX6_under_14 : decode cX6_under 14 = .ok (.iload_n 1, 1) := by decide +kernel
theorem dX6_under_15 : decode cX6_under 15 = .ok (.invokevirtual 132, 3) := by decide +kernel
theorem dX6_under_18 : decode cX6_under 18 = .ok (.ifCond .eq 14, 3) := by decide +kernel
theorem dX6_under_21 : decode cX6_under 21 = .ok (.aload_n 0, 1) := by decide +kernel
theorem dX6_under_22 : decode cX6_under 22 = .ok (.getfield 12, 3) := by decide +kernel
theorem dX6_under_25 : decode cX6_under 25 = .ok (.iload_n 2, 1) := by decide +kernel
theorem dX6_under_26 : decode cX6_under 26 = .ok (.invokevirtual 132, 3) := by decide +kernel
theorem dX6_under_29 : decode cX6_under 29 = .ok (.ifCond .ne 6, 3) := by decide +kernel
theorem dX6_under_32 : decode cX6_under 32 = .ok (.bipush (-101), 2) := by decide +kernel
theorem dX6_under_34 : decode cX6_under 34 = .ok (.ireturn, 1) := by decide +kernel
theorem dX6_under_35 : decode cX6_under 35 = .ok (.aload_n 0, 1) := by decide +kernel
theorem dX6_under_36 : decode cX6_under 36 = .ok (.iload_n 1, 1) := by decide +kernel
theorem dX6_under_37 : decode cX6_under 37 = .ok (.iload_n 2, 1) := by decide +kernel
theorem dX6_under_38 : decode cX6_under 38 = .ok (.invokevirtual 135, 3) := by decide +kernel
theorem dX6_under_41 : decode cX6_under 41 = .ok (.invokestatic 138, 3) := by decide +kernel
theorem dX6_under_44 : decode cX6_under 44 = .ok (.ireturn, 1) := by decide +kernel
theorem dX6_like_0 : decode cX6_like 0 = .ok (.aload_n 0, 1) := by decide +kernel
theorem dX6_like_1 : decode cX6_like 1 = .ok (.getfield 57, 3) := by decide +kernel
theorem dX6_like_4 : decode cX6_like 4 = .ok (.ifCond .ne 6, 3) := by decide +kernel
theorem dX6_like_7 : decode cX6_like 7 = .ok (.bipush (-103), 2) := by decide +kernel
theorem dX6_like_9 : decode cX6_like 9 = .ok (.ireturn, 1) := by decide +kernel
theorem dX6_like_10 : decode cX6_like 10 = .ok (.aload_n 0, 1) := by decide +kernel
theorem dX6_like_11 : decode cX6_like 11 = .ok (.getfield 12, 3) := by decide +kernel
theorem dX6_like_14 : decode cX6_like 14 = .ok (.iload_n 1, 1) := by decide +kernel
theorem dX6_like_15 : decode cX6_like 15 = .ok (.invokevirtual 132, 3) := by decide +kernel
theorem dX6_like_18 : decode cX6_like 18 = .ok (.ifCond .ne 6, 3) := by decide +kernel
theorem dX6_like_21 : decode cX6_like 21 = .ok (.bipush (-101), 2) := by decide +kernel
theorem dX6_like_23 : decode cX6_like 23 = .ok (.ireturn, 1) := by decide +kernel
theorem dX6_like_24 : decode cX6_like 24 = .ok (.aload_n 0, 1) := by decide +kernel
theorem dX6_like_25 : decode cX6_like 25 = .ok (.iload_n 1, 1) := by decide +kernel
theorem dX6_like_26 : decode cX6_like 26 = .ok (.invokevirtual 142, 3) := by decide +kernel
theorem dX6_like_29 : decode cX6_like 29 = .ok (.ireturn, 1) := by decide +kernel
theorem dX6_parent_0 : decode cX6_parent 0 = .ok (.aload_n 0, 1) := by decide +kernel
theorem dX6_parent_1 : decode cX6_parent 1 = .ok (.getfield 57, 3) := by decide +kernel
theorem dX6_parent_4 : decode cX6_parent 4 = .ok (.ifCond .ne 6, 3) := by decide +kernel
theorem dX6_parent_7 : decode cX6_parent 7 = .ok (.bipush (-103), 2) := by decide +kernel
theorem dX6_parent_9 : decode cX6_parent 9 = .ok (.ireturn, 1) := by decide +kernel
theorem dX6_parent_10 : decode cX6_parent 10 = .ok (.aload_n 0, 1) := by decide +kernel
theorem dX6_parent_11 : decode cX6_parent 11 = .ok (.getfield 12, 3) := by decide +kernel
theorem dX6_parent_14 : decode cX6_parent 14 = .ok (.iload_n 1, 1) := by decide +kernel
theorem dX6_parent_15 : decode cX6_parent 15 = .ok (.invokevirtual 132, 3) := by decide +kernel
theorem dX6_parent_18 : decode cX6_parent 18 = .ok (.ifCond .ne 6, 3) := by decide +kernel
theorem dX6_parent_21 : decode cX6_parent 21 = .ok (.bipush (-101), 2) := by decide +kernel
theorem dX6_parent_23 : decode cX6_parent 23 = .ok (.ireturn, 1) := by decide +kernel
theorem dX6_parent_24 : decode cX6_parent 24 = .ok (.iconst 0, 1) := by decide +kernel
theorem dX6_parent_25 : decode cX6_parent 25 = .ok (.istore_n 3, 1) := by decide +kernel
theorem dX6_parent_26 : decode cX6_parent 26 = .ok (.iconst 0, 1) := by decide +kernel
theorem dX6_parent_27 : decode cX6_parent 27 = .ok (.istore 4, 2) := by decide +kernel
theorem dX6_parent_29 : decode cX6_parent 29 = .ok (.iload 4, 2) := by decide +kernel
theorem dX6_parent_31 : decode cX6_parent 31 = .ok (.aload_n 0, 1) := by decide +kernel
theorem dX6_parent_32 : decode cX6_parent 32 = .ok (.getfield 12, 3) := by decide +kernel
theorem dX6_parent_35 : decode cX6_parent 35 = .ok (.getfield 145, 3) := by decide +kernel
theorem dX6_parent_38 : decode cX6_parent 38 = .ok (.if_icmp .ge 42, 3) := by decide +kernel
theorem dX6_parent_41 : decode cX6_parent 41 = .ok (.aload_n 0, 1) := by decide +kernel
theorem dX6_parent_42 : decode cX6_parent 42 = .ok (.getfield 12, 3) := by decide +kernel
theorem dX6_parent_45 : decode cX6_parent 45 = .ok (.iload 4, 2) := by decide +kernel
theorem dX6_parent_47 : decode cX6_parent 47 = .ok (.invokevirtual 132, 3) := by decide +kernel
theorem dX6_parent_50 : decode cX6_parent 50 = .ok (.ifCond .eq 24, 3) := by decide +kernel
theorem dX6_parent_53 : decode cX6_parent 53 = .ok (.aload_n 0, 1) := by decide +kernel
theorem dX6_parent_54 : decode cX6_parent 54 = .ok (.iload_n 1, 1) := by decide +kernel
theorem dX6_parent_55 : decode cX6_parent 55 = .ok (.iload 4, 2) := by decide +kernel
theorem dX6_parent_57 : decode cX6_parent 57 = .ok (.invokevirtual 146, 3) := by decide +kernel
theorem dX6_parent_60 : decode cX6_parent 60 = .ok (.ifCond .eq 14, 3) := by decide +kernel
theorem dX6_parent_63 : decode cX6_parent 63 = .ok (.iload_n 3, 1) := by decide +kernel
theorem dX6_parent_64 : decode cX6_parent 64 = .ok (.iload_n 2, 1) := by decide +kernel
theorem dX6_parent_65 : decode cX6_parent 65 = .ok (.if_icmp .ne 6, 3) := by decide +kernel
theorem dX6_parent_68 : decode cX6_parent 68 = .ok (.iload 4, 2) := by decide +kernel
theorem dX6_parent_70 : decode cX6_parent 70 = .ok (.ireturn, 1) := by decide +kernel
theorem dX6_parent_71 : decode cX6_parent 71 = .ok (.iinc 3 1, 3) := by decide +kernel
theorem dX6_parent_74 : decode cX6_parent 74 = .ok (.iinc 4 1, 3) := by decide +kernel
theorem dX6_parent_77 : decode cX6_parent 77 = .ok (.goto (-48), 3) := by decide +kernel
theorem dX6_parent_80 : decode cX6_parent 80 = .ok (.iconst (-1), 1) := by decide +kernel
theorem dX6_parent_81 : decode cX6_parent 81 = .ok (.ireturn, 1) := by decide +kernel
theorem dX6_broken_0 : decode cX6_broken 0 = .ok (.aload_n 0, 1) := by decide +kernel
theorem dX6_broken_1 : decode cX6_broken 1 = .ok (.getfield 57, 3) := by decide +kernel
theorem dX6_broken_4 : decode cX6_broken 4 = .ok (.ifCond .eq 18, 3) := by decide +kernel
theorem dX6_broken_7 : decode cX6_broken 7 = .ok (.aload_n 0, 1) := by decide +kernel
theorem dX6_broken_8 : decode cX6_broken 8 = .ok (.getfield 33, 3) := by decide +kernel
theorem dX6_broken_11 : decode cX6_broken 11 = .ok (.iconst 0, 1) := by decide +kernel
theorem dX6_broken_12 : decode cX6_broken 12 = .ok (.iconst 1, 1) := by decide +kernel
theorem dX6_broken_13 : decode cX6_broken 13 = .ok (.invokevirtual 149, 3) := by decide +kernel
theorem dX6_broken_16 : decode cX6_broken 16 = .ok (.invokestatic 138, 3) := by decide +kernel
theorem dX6_broken_19 : decode cX6_broken 19 = .ok (.goto 5, 3) := by decide +kernel
theorem dX6_broken_22 : decode cX6_broken 22 = .ok (.bipush (-103), 2) := by decide +kernel
theorem dX6_broken_24 : decode cX6_broken 24 = .ok (.ireturn, 1) := by decide +kernel
theorem dX6_things_0 : decode cX6_things 0 = .ok (.aload_n 0, 1) := by decide +kernel
theorem dX6_things_1 : decode cX6_things 1 = .ok (.getfield 57, 3) := by decide +kernel
theorem dX6_things_4 : decode cX6_things 4 = .ok (.ifCond .eq 17, 3) := by decide +kernel
theorem dX6_things_7 : decode cX6_things 7 = .ok (.aload_n 0, 1) := by decide +kernel
theorem dX6_things_8 : decode cX6_things 8 = .ok (.getfield 49, 3) := by decide +kernel
theorem dX6_things_11 : decode cX6_things 11 = .ok (.iconst 0, 1) := by decide +kernel
theorem dX6_things_12 : decode cX6_things 12 = .ok (.invokevirtual 152, 3) := by decide +kernel
theorem dX6_things_15 : decode cX6_things 15 = .ok (.invokestatic 155, 3) := by decide +kernel
theorem dX6_things_18 : decode cX6_things 18 = .ok (.goto 5, 3) := by decide +kernel
theorem dX6_things_21 : decode cX6_things 21 = .ok (.bipush (-103), 2) := by decide +kernel
theorem dX6_things_23 : decode cX6_things 23 = .ok (.ireturn, 1) := by decide +kernel
theorem dX6_isOf_0 : decode cX6_isOf 0 = .ok (.aload_n 0, 1) := by decide +kernel
theorem dX6_isOf_1 : decode cX6_isOf 1 = .ok (.getfield 57, 3) := by decide +kernel
theorem dX6_isOf_4 : decode cX6_isOf 4 = .ok (.ifCond .ne 6, 3) := by decide +kernel
theorem dX6_isOf_7 : decode cX6_isOf 7 = .ok (.bipush (-103), 2) := by decide +kernel
theorem dX6_isOf_9 : decode cX6_isOf 9 = .ok (.ireturn, 1) := by decide +kernel
theorem dX6_isOf_10 : decode cX6_isOf 10 = .ok (.aload_n 0, 1) := by decide +kernel
theorem dX6_isOf_11 : decode cX6_isOf 11 = .ok (.getfield 12, 3) := by decide +kernel
theorem dX6_isOf_14 : decode cX6_isOf 14 = .ok (.iload_n 1, 1) := by decide +kernel
theorem dX6_isOf_15 : decode cX6_isOf 15 = .ok (.invokevirtual 68, 3) := by decide +kernel
theorem dX6_isOf_18 : decode cX6_isOf 18 = .ok (.ifCond .eq 14, 3) := by decide +kernel
theorem dX6_isOf_21 : decode cX6_isOf 21 = .ok (.aload_n 0, 1) := by decide +kernel
theorem dX6_isOf_22 : decode cX6_isOf 22 = .ok (.getfield 12, 3) := by decide +kernel
theorem dX6_isOf_25 : decode cX6_isOf 25 = .ok (.iload_n 2, 1) := by decide +kernel
theorem dX6_isOf_26 : decode cX6_isOf 26 = .ok (.invokevirtual 68, 3) := by decide +kernel
theorem dX6_isOf_29 : decode cX6_isOf 29 = .ok (.ifCond .ne 6, 3) := by decide +kernel
theorem dX6_isOf_32 : decode cX6_isOf 32 = .ok (.bipush (-101), 2) := by decide +kernel
theorem dX6_isOf_34 : decode cX6_isOf 34 = .ok (.ireturn, 1) := by decide +kernel
theorem dX6_isOf_35 : decode cX6_isOf 35 = .ok (.aload_n 0, 1) := by decide +kernel
theorem dX6_isOf_36 : decode cX6_isOf 36 = .ok (.getfield 49, 3) := by decide +kernel
theorem dX6_isOf_39 : decode cX6_isOf 39 = .ok (.iconst 0, 1) := by decide +kernel
theorem dX6_isOf_40 : decode cX6_isOf 40 = .ok (.invokevirtual 152, 3) := by decide +kernel
theorem dX6_isOf_43 : decode cX6_isOf 43 = .ok (.iload_n 1, 1) := by decide +kernel
theorem dX6_isOf_44 : decode cX6_isOf 44 = .ok (.invokestatic 160, 3) := by decide +kernel
theorem dX6_isOf_47 : decode cX6_isOf 47 = .ok (.ifCond .ne 5, 3) := by decide +kernel
theorem dX6_isOf_50 : decode cX6_isOf 50 = .ok (.iconst (-1), 1) := by decide +kernel
theorem dX6_isOf_51 : decode cX6_isOf 51 = .ok (.ireturn, 1) := by decide +kernel
theorem dX6_isOf_52 : decode cX6_isOf 52 = .ok (.aload_n 0, 1) := by decide +kernel
theorem dX6_isOf_53 : decode cX6_isOf 53 = .ok (.getfield 49, 3) := by decide +kernel
theorem dX6_isOf_56 : decode cX6_isOf 56 = .ok (.iload_n 2, 1) := by decide +kernel
theorem dX6_isOf_57 : decode cX6_isOf 57 = .ok (.invokevirtual 152, 3) := by decide +kernel
theorem dX6_isOf_60 : decode cX6_isOf 60 = .ok (.iload_n 1, 1) := by decide +kernel
theorem dX6_isOf_61 : decode cX6_isOf 61 = .ok (.invokestatic 160, 3) := by decide +kernel
theorem dX6_isOf_64 : decode cX6_isOf 64 = .ok (.invokestatic 138, 3) := by decide +kernel
theorem dX6_isOf_67 : decode cX6_isOf 67 = .ok (.ireturn, 1) := by decide +kernel
theorem dX6_pair_0 : decode cX6_pair 0 = .ok (.aload_n 0, 1) := by decide +kernel
theorem dX6_pair_1 : decode cX6_pair 1 = .ok (.getfield 57, 3) := by decide +kernel
theorem dX6_pair_4 : decode cX6_pair 4 = .ok (.ifCond .ne 6, 3) := by decide +kernel
theorem dX6_pair_7 : decode cX6_pair 7 = .ok (.bipush (-103), 2) := by decide +kernel
theorem dX6_pair_9 : decode cX6_pair 9 = .ok (.ireturn, 1) := by decide +kernel
theorem dX6_pair_10 : decode cX6_pair 10 = .ok (.aload_n 0, 1) := by decide +kernel
theorem dX6_pair_11 : decode cX6_pair 11 = .ok (.getfield 12, 3) := by decide +kernel
theorem dX6_pair_14 : decode cX6_pair 14 = .ok (.iload_n 1, 1) := by decide +kernel
theorem dX6_pair_15 : decode cX6_pair 15 = .ok (.invokevirtual 68, 3) := by decide +kernel
theorem dX6_pair_18 : decode cX6_pair 18 = .ok (.ifCond .eq 14, 3) := by decide +kernel
theorem dX6_pair_21 : decode cX6_pair 21 = .ok (.aload_n 0, 1) := by decide +kernel
theorem dX6_pair_22 : decode cX6_pair 22 = .ok (.getfield 12, 3) := by decide +kernel
theorem dX6_pair_25 : decode cX6_pair 25 = .ok (.iload_n 3, 1) := by decide +kernel
theorem dX6_pair_26 : decode cX6_pair 26 = .ok (.invokevirtual 68, 3) := by decide +kernel
theorem dX6_pair_29 : decode cX6_pair 29 = .ok (.ifCond .ne 6, 3) := by decide +kernel
theorem dX6_pair_32 : decode cX6_pair 32 = .ok (.bipush (-101), 2) := by decide +kernel
theorem dX6_pair_34 : decode cX6_pair 34 = .ok (.ireturn, 1) := by decide +kernel
theorem dX6_pair_35 : decode cX6_pair 35 = .ok (.iload_n 2, 1) := by decide +kernel
theorem dX6_pair_36 : decode cX6_pair 36 = .ok (.invokestatic 84, 3) := by decide +kernel
theorem dX6_pair_39 : decode cX6_pair 39 = .ok (.ifCond .ne 6, 3) := by decide +kernel
theorem dX6_pair_42 : decode cX6_pair 42 = .ok (.bipush (-102), 2) := by decide +kernel
theorem dX6_pair_44 : decode cX6_pair 44 = .ok (.ireturn, 1) := by decide +kernel
theorem dX6_pair_45 : decode cX6_pair 45 = .ok (.aload_n 0, 1) := by decide +kernel
theorem dX6_pair_46 : decode cX6_pair 46 = .ok (.getfield 49, 3) := by decide +kernel
theorem dX6_pair_49 : decode cX6_pair 49 = .ok (.iload_n 2, 1) := by decide +kernel
theorem dX6_pair_50 : decode cX6_pair 50 = .ok (.iload_n 1, 1) := by decide +kernel
theorem dX6_pair_51 : decode cX6_pair 51 = .ok (.invokevirtual 163, 3) := by decide +kernel
theorem dX6_pair_54 : decode cX6_pair 54 = .ok (.iload_n 3, 1) := by decide +kernel
theorem dX6_pair_55 : decode cX6_pair 55 = .ok (.invokestatic 160, 3) := by decide +kernel
theorem dX6_pair_58 : decode cX6_pair 58 = .ok (.invokestatic 138, 3) := by decide +kernel
theorem dX6_pair_61 : decode cX6_pair 61 = .ok (.ireturn, 1) := by decide +kernel
theorem dX6_holds_0 : decode cX6_holds 0 = .ok (.aload_n 0, 1) := by decide +kernel
theorem dX6_holds_1 : decode cX6_holds 1 = .ok (.getfield 57, 3) := by decide +kernel
theorem dX6_holds_4 : decode cX6_holds 4 = .ok (.ifCond .ne 6, 3) := by decide +kernel
theorem dX6_holds_7 : decode cX6_holds 7 = .ok (.bipush (-103), 2) := by decide +kernel
theorem dX6_holds_9 : decode cX6_holds 9 = .ok (.ireturn, 1) := by decide +kernel
theorem dX6_holds_10 : decode cX6_holds 10 = .ok (.aload_n 0, 1) := by decide +kernel
theorem dX6_holds_11 : decode cX6_holds 11 = .ok (.getfield 19, 3) := by decide +kernel
theorem dX6_holds_14 : decode cX6_holds 14 = .ok (.iload_n 1, 1) := by decide +kernel
theorem dX6_holds_15 : decode cX6_holds 15 = .ok (.invokevirtual 105, 3) := by decide +kernel
theorem dX6_holds_18 : decode cX6_holds 18 = .ok (.ifCond .ne 6, 3) := by decide +kernel
theorem dX6_holds_21 : decode cX6_holds 21 = .ok (.bipush (-101), 2) := by decide +kernel
theorem dX6_holds_23 : decode cX6_holds 23 = .ok (.ireturn, 1) := by decide +kernel
theorem dX6_holds_24 : decode cX6_holds 24 = .ok (.aload_n 0, 1) := by decide +kernel
theorem dX6_holds_25 : decode cX6_holds 25 = .ok (.iload_n 1, 1) := by decide +kernel
theorem dX6_holds_26 : decode cX6_holds 26 = .ok (.invokevirtual 166, 3) := by decide +kernel
theorem dX6_holds_29 : decode cX6_holds 29 = .ok (.invokestatic 138, 3) := by decide +kernel
theorem dX6_holds_32 : decode cX6_holds 32 = .ok (.ireturn, 1) := by decide +kernel
theorem dX6_count_0 : decode cX6_count 0 = .ok (.iload_n 1, 1) := by decide +kernel
theorem dX6_count_1 : decode cX6_count 1 = .ok (.tableswitch 72 0 4 #[35, 43, 51, 59, 67], 35) := by decide +kernel
theorem dX6_count_36 : decode cX6_count 36 = .ok (.aload_n 0, 1) := by decide +kernel
theorem dX6_count_37 : decode cX6_count 37 = .ok (.getfield 12, 3) := by decide +kernel
theorem dX6_count_40 : decode cX6_count 40 = .ok (.getfield 145, 3) := by decide +kernel
theorem dX6_count_43 : decode cX6_count 43 = .ok (.ireturn, 1) := by decide +kernel
theorem dX6_count_44 : decode cX6_count 44 = .ok (.aload_n 0, 1) := by decide +kernel
theorem dX6_count_45 : decode cX6_count 45 = .ok (.getfield 12, 3) := by decide +kernel
theorem dX6_count_48 : decode cX6_count 48 = .ok (.getfield 61, 3) := by decide +kernel
theorem dX6_count_51 : decode cX6_count 51 = .ok (.ireturn, 1) := by decide +kernel
theorem dX6_count_52 : decode cX6_count 52 = .ok (.aload_n 0, 1) := by decide +kernel
theorem dX6_count_53 : decode cX6_count 53 = .ok (.getfield 19, 3) := by decide +kernel
theorem dX6_count_56 : decode cX6_count 56 = .ok (.getfield 169, 3) := by decide +kernel
theorem dX6_count_59 : decode cX6_count 59 = .ok (.ireturn, 1) := by decide +kernel
theorem dX6_count_60 : decode cX6_count 60 = .ok (.aload_n 0, 1) := by decide +kernel
theorem dX6_count_61 : decode cX6_count 61 = .ok (.getfield 19, 3) := by decide +kernel
theorem dX6_count_64 : decode cX6_count 64 = .ok (.invokevirtual 170, 3) := by decide +kernel
theorem dX6_count_67 : decode cX6_count 67 = .ok (.ireturn, 1) := by decide +kernel
theorem dX6_count_68 : decode cX6_count 68 = .ok (.aload_n 0, 1) := by decide +kernel
theorem dX6_count_69 : decode cX6_count 69 = .ok (.getfield 53, 3) := by decide +kernel
theorem dX6_count_72 : decode cX6_count 72 = .ok (.ireturn, 1) := by decide +kernel
theorem dX6_count_73 : decode cX6_count 73 = .ok (.bipush (-102), 2) := by decide +kernel
theorem dX6_count_75 : decode cX6_count 75 = .ok (.ireturn, 1) := by decide +kernel
theorem dX6_digest_0 : decode cX6_digest 0 = .ok (.ldc2_w 174, 3) := by decide +kernel
theorem dX6_digest_3 : decode cX6_digest 3 = .ok (.lstore_n 1, 1) := by decide +kernel
theorem dX6_digest_4 : decode cX6_digest 4 = .ok (.iconst 0, 1) := by decide +kernel
theorem dX6_digest_5 : decode cX6_digest 5 = .ok (.istore_n 3, 1) := by decide +kernel
theorem dX6_digest_6 : decode cX6_digest 6 = .ok (.iload_n 3, 1) := by decide +kernel
theorem dX6_digest_7 : decode cX6_digest 7 = .ok (.aload_n 0, 1) := by decide +kernel
theorem dX6_digest_8 : decode cX6_digest 8 = .ok (.getfield 12, 3) := by decide +kernel
theorem dX6_digest_11 : decode cX6_digest 11 = .ok (.getfield 145, 3) := by decide +kernel
theorem dX6_digest_14 : decode cX6_digest 14 = .ok (.if_icmp .ge 42, 3) := by decide +kernel
theorem dX6_digest_17 : decode cX6_digest 17 = .ok (.iconst 0, 1) := by decide +kernel
theorem dX6_digest_18 : decode cX6_digest 18 = .ok (.istore 4, 2) := by decide +kernel
theorem dX6_digest_20 : decode cX6_digest 20 = .ok (.iload 4, 2) := by decide +kernel
theorem dX6_digest_22 : decode cX6_digest 22 = .ok (.iconst 3, 1) := by decide +kernel
theorem dX6_digest_23 : decode cX6_digest 23 = .ok (.if_icmp .ge 27, 3) := by decide +kernel
theorem dX6_digest_26 : decode cX6_digest 26 = .ok (.ldc2_w 176, 3) := by decide +kernel
theorem dX6_digest_29 : decode cX6_digest 29 = .ok (.lload_n 1, 1) := by decide +kernel
theorem dX6_digest_30 : decode cX6_digest 30 = .ok (.lmul, 1) := by decide +kernel
theorem dX6_digest_31 : decode cX6_digest 31 = .ok (.aload_n 0, 1) := by decide +kernel
theorem dX6_digest_32 : decode cX6_digest 32 = .ok (.getfield 12, 3) := by decide +kernel
theorem dX6_digest_35 : decode cX6_digest 35 = .ok (.iload_n 3, 1) := by decide +kernel
theorem dX6_digest_36 : decode cX6_digest 36 = .ok (.iload 4, 2) := by decide +kernel
theorem dX6_digest_38 : decode cX6_digest 38 = .ok (.invokevirtual 102, 3) := by decide +kernel
theorem dX6_digest_41 : decode cX6_digest 41 = .ok (.i2l, 1) := by decide +kernel
theorem dX6_digest_42 : decode cX6_digest 42 = .ok (.ladd, 1) := by decide +kernel
theorem dX6_digest_43 : decode cX6_digest 43 = .ok (.lstore_n 1, 1) := by decide +kernel
theorem dX6_digest_44 : decode cX6_digest 44 = .ok (.iinc 4 1, 3) := by decide +kernel
theorem dX6_digest_47 : decode cX6_digest 47 = .ok (.goto (-27), 3) := by decide +kernel
theorem dX6_digest_50 : decode cX6_digest 50 = .ok (.iinc 3 1, 3) := by decide +kernel
theorem dX6_digest_53 : decode cX6_digest 53 = .ok (.goto (-47), 3) := by decide +kernel
theorem dX6_digest_56 : decode cX6_digest 56 = .ok (.iconst 0, 1) := by decide +kernel
theorem dX6_digest_57 : decode cX6_digest 57 = .ok (.istore_n 3, 1) := by decide +kernel
theorem dX6_digest_58 : decode cX6_digest 58 = .ok (.iload_n 3, 1) := by decide +kernel
theorem dX6_digest_59 : decode cX6_digest 59 = .ok (.aload_n 0, 1) := by decide +kernel
theorem dX6_digest_60 : decode cX6_digest 60 = .ok (.getfield 19, 3) := by decide +kernel
theorem dX6_digest_63 : decode cX6_digest 63 = .ok (.getfield 169, 3) := by decide +kernel
theorem dX6_digest_66 : decode cX6_digest 66 = .ok (.if_icmp .ge 42, 3) := by decide +kernel
theorem dX6_digest_69 : decode cX6_digest 69 = .ok (.iconst 0, 1) := by decide +kernel
theorem dX6_digest_70 : decode cX6_digest 70 = .ok (.istore 4, 2) := by decide +kernel
theorem dX6_digest_72 : decode cX6_digest 72 = .ok (.iload 4, 2) := by decide +kernel
theorem dX6_digest_74 : decode cX6_digest 74 = .ok (.iconst 5, 1) := by decide +kernel
theorem dX6_digest_75 : decode cX6_digest 75 = .ok (.if_icmp .ge 27, 3) := by decide +kernel
theorem dX6_digest_78 : decode cX6_digest 78 = .ok (.ldc2_w 176, 3) := by decide +kernel
theorem dX6_digest_81 : decode cX6_digest 81 = .ok (.lload_n 1, 1) := by decide +kernel
theorem dX6_digest_82 : decode cX6_digest 82 = .ok (.lmul, 1) := by decide +kernel
theorem dX6_digest_83 : decode cX6_digest 83 = .ok (.aload_n 0, 1) := by decide +kernel
theorem dX6_digest_84 : decode cX6_digest 84 = .ok (.getfield 19, 3) := by decide +kernel
theorem dX6_digest_87 : decode cX6_digest 87 = .ok (.iload_n 3, 1) := by decide +kernel
theorem dX6_digest_88 : decode cX6_digest 88 = .ok (.iload 4, 2) := by decide +kernel
theorem dX6_digest_90 : decode cX6_digest 90 = .ok (.invokevirtual 106, 3) := by decide +kernel
theorem dX6_digest_93 : decode cX6_digest 93 = .ok (.i2l, 1) := by decide +kernel
theorem dX6_digest_94 : decode cX6_digest 94 = .ok (.ladd, 1) := by decide +kernel
theorem dX6_digest_95 : decode cX6_digest 95 = .ok (.lstore_n 1, 1) := by decide +kernel
theorem dX6_digest_96 : decode cX6_digest 96 = .ok (.iinc 4 1, 3) := by decide +kernel
theorem dX6_digest_99 : decode cX6_digest 99 = .ok (.goto (-27), 3) := by decide +kernel
theorem dX6_digest_102 : decode cX6_digest 102 = .ok (.iinc 3 1, 3) := by decide +kernel
theorem dX6_digest_105 : decode cX6_digest 105 = .ok (.goto (-47), 3) := by decide +kernel
theorem dX6_digest_108 : decode cX6_digest 108 = .ok (.aload_n 0, 1) := by decide +kernel
theorem dX6_digest_109 : decode cX6_digest 109 = .ok (.getfield 57, 3) := by decide +kernel
theorem dX6_digest_112 : decode cX6_digest 112 = .ok (.ifCond .eq 13, 3) := by decide +kernel
theorem dX6_digest_115 : decode cX6_digest 115 = .ok (.aload_n 0, 1) := by decide +kernel
theorem dX6_digest_116 : decode cX6_digest 116 = .ok (.getfield 33, 3) := by decide +kernel
theorem dX6_digest_119 : decode cX6_digest 119 = .ok (.getfield 114, 3) := by decide +kernel
theorem dX6_digest_122 : decode cX6_digest 122 = .ok (.goto 4, 3) := by decide +kernel
theorem dX6_digest_125 : decode cX6_digest 125 = .ok (.iconst 0, 1) := by decide +kernel
theorem dX6_digest_126 : decode cX6_digest 126 = .ok (.istore_n 3, 1) := by decide +kernel
theorem dX6_digest_127 : decode cX6_digest 127 = .ok (.iconst 0, 1) := by decide +kernel
theorem dX6_digest_128 : decode cX6_digest 128 = .ok (.istore 4, 2) := by decide +kernel
theorem dX6_digest_130 : decode cX6_digest 130 = .ok (.iload 4, 2) := by decide +kernel
theorem dX6_digest_132 : decode cX6_digest 132 = .ok (.iload_n 3, 1) := by decide +kernel
theorem dX6_digest_133 : decode cX6_digest 133 = .ok (.if_icmp .ge 44, 3) := by decide +kernel
theorem dX6_digest_136 : decode cX6_digest 136 = .ok (.iconst 0, 1) := by decide +kernel
theorem dX6_digest_137 : decode cX6_digest 137 = .ok (.istore 5, 2) := by decide +kernel
theorem dX6_digest_139 : decode cX6_digest 139 = .ok (.iload 5, 2) := by decide +kernel
theorem dX6_digest_141 : decode cX6_digest 141 = .ok (.bipush 9, 2) := by decide +kernel
theorem dX6_digest_143 : decode cX6_digest 143 = .ok (.if_icmp .ge 28, 3) := by decide +kernel
theorem dX6_digest_146 : decode cX6_digest 146 = .ok (.ldc2_w 176, 3) := by decide +kernel
theorem dX6_digest_149 : decode cX6_digest 149 = .ok (.lload_n 1, 1) := by decide +kernel
theorem dX6_digest_150 : decode cX6_digest 150 = .ok (.lmul, 1) := by decide +kernel
theorem dX6_digest_151 : decode cX6_digest 151 = .ok (.aload_n 0, 1) := by decide +kernel
theorem dX6_digest_152 : decode cX6_digest 152 = .ok (.getfield 33, 3) := by decide +kernel
theorem dX6_digest_155 : decode cX6_digest 155 = .ok (.iload 4, 2) := by decide +kernel
theorem dX6_digest_157 : decode cX6_digest 157 = .ok (.iload 5, 2) := by decide +kernel
theorem dX6_digest_159 : decode cX6_digest 159 = .ok (.invokevirtual 121, 3) := by decide +kernel
theorem dX6_digest_162 : decode cX6_digest 162 = .ok (.i2l, 1) := by decide +kernel
theorem dX6_digest_163 : decode cX6_digest 163 = .ok (.ladd, 1) := by decide +kernel
theorem dX6_digest_164 : decode cX6_digest 164 = .ok (.lstore_n 1, 1) := by decide +kernel
theorem dX6_digest_165 : decode cX6_digest 165 = .ok (.iinc 5 1, 3) := by decide +kernel
theorem dX6_digest_168 : decode cX6_digest 168 = .ok (.goto (-29), 3) := by decide +kernel
theorem dX6_digest_171 : decode cX6_digest 171 = .ok (.iinc 4 1, 3) := by decide +kernel
theorem dX6_digest_174 : decode cX6_digest 174 = .ok (.goto (-44), 3) := by decide +kernel
theorem dX6_digest_177 : decode cX6_digest 177 = .ok (.lload_n 1, 1) := by decide +kernel
theorem dX6_digest_178 : decode cX6_digest 178 = .ok (.lreturn, 1) := by decide +kernel
theorem dX6_findOrAddNotion_0 : decode cX6_findOrAddNotion 0 = .ok (.aload_n 0, 1) := by decide +kernel
theorem dX6_findOrAddNotion_1 : decode cX6_findOrAddNotion 1 = .ok (.getfield 12, 3) := by decide +kernel
theorem dX6_findOrAddNotion_4 : decode cX6_findOrAddNotion 4 = .ok (.iload_n 1, 1) := by decide +kernel
theorem dX6_findOrAddNotion_5 : decode cX6_findOrAddNotion 5 = .ok (.iload_n 2, 1) := by decide +kernel
theorem dX6_findOrAddNotion_6 : decode cX6_findOrAddNotion 6 = .ok (.iload_n 3, 1) := by decide +kernel
theorem dX6_findOrAddNotion_7 : decode cX6_findOrAddNotion 7 = .ok (.invokevirtual 178, 3) := by decide +kernel
theorem dX6_findOrAddNotion_10 : decode cX6_findOrAddNotion 10 = .ok (.istore 4, 2) := by decide +kernel
theorem dX6_findOrAddNotion_12 : decode cX6_findOrAddNotion 12 = .ok (.iload 4, 2) := by decide +kernel
theorem dX6_findOrAddNotion_14 : decode cX6_findOrAddNotion 14 = .ok (.iconst (-1), 1) := by decide +kernel
theorem dX6_findOrAddNotion_15 : decode cX6_findOrAddNotion 15 = .ok (.if_icmp .eq 8, 3) := by decide +kernel
theorem dX6_findOrAddNotion_18 : decode cX6_findOrAddNotion 18 = .ok (.iload 4, 2) := by decide +kernel
theorem dX6_findOrAddNotion_20 : decode cX6_findOrAddNotion 20 = .ok (.goto 10, 3) := by decide +kernel
theorem dX6_findOrAddNotion_23 : decode cX6_findOrAddNotion 23 = .ok (.aload_n 0, 1) := by decide +kernel
theorem dX6_findOrAddNotion_24 : decode cX6_findOrAddNotion 24 = .ok (.iload_n 1, 1) := by decide +kernel
theorem dX6_findOrAddNotion_25 : decode cX6_findOrAddNotion 25 = .ok (.iload_n 2, 1) := by decide +kernel
theorem dX6_findOrAddNotion_26 : decode cX6_findOrAddNotion 26 = .ok (.iload_n 3, 1) := by decide +kernel
theorem dX6_findOrAddNotion_27 : decode cX6_findOrAddNotion 27 = .ok (.invokevirtual 64, 3) := by decide +kernel
theorem dX6_findOrAddNotion_30 : decode cX6_findOrAddNotion 30 = .ok (.ireturn, 1) := by decide +kernel
theorem dX6_addNotion_0 : decode cX6_addNotion 0 = .ok (.aload_n 0, 1) := by decide +kernel
theorem dX6_addNotion_1 : decode cX6_addNotion 1 = .ok (.getfield 12, 3) := by decide +kernel
theorem dX6_addNotion_4 : decode cX6_addNotion 4 = .ok (.getfield 145, 3) := by decide +kernel
theorem dX6_addNotion_7 : decode cX6_addNotion 7 = .ok (.bipush 20, 2) := by decide +kernel
theorem dX6_addNotion_9 : decode cX6_addNotion 9 = .ok (.if_icmp .lt 6, 3) := by decide +kernel
theorem dX6_addNotion_12 : decode cX6_addNotion 12 = .ok (.bipush (-104), 2) := by decide +kernel
theorem dX6_addNotion_14 : decode cX6_addNotion 14 = .ok (.ireturn, 1) := by decide +kernel
theorem dX6_addNotion_15 : decode cX6_addNotion 15 = .ok (.aload_n 0, 1) := by decide +kernel
theorem dX6_addNotion_16 : decode cX6_addNotion 16 = .ok (.iconst 0, 1) := by decide +kernel
theorem dX6_addNotion_17 : decode cX6_addNotion 17 = .ok (.putfield 57, 3) := by decide +kernel
theorem dX6_addNotion_20 : decode cX6_addNotion 20 = .ok (.aload_n 0, 1) := by decide +kernel
theorem dX6_addNotion_21 : decode cX6_addNotion 21 = .ok (.getfield 12, 3) := by decide +kernel
theorem dX6_addNotion_24 : decode cX6_addNotion 24 = .ok (.iload_n 1, 1) := by decide +kernel
theorem dX6_addNotion_25 : decode cX6_addNotion 25 = .ok (.iload_n 2, 1) := by decide +kernel
theorem dX6_addNotion_26 : decode cX6_addNotion 26 = .ok (.iload_n 3, 1) := by decide +kernel
theorem dX6_addNotion_27 : decode cX6_addNotion 27 = .ok (.invokevirtual 181, 3) := by decide +kernel
theorem dX6_addNotion_30 : decode cX6_addNotion 30 = .ok (.ireturn, 1) := by decide +kernel
theorem dX6_addAxiom_0 : decode cX6_addAxiom 0 = .ok (.aload_n 0, 1) := by decide +kernel
theorem dX6_addAxiom_1 : decode cX6_addAxiom 1 = .ok (.getfield 19, 3) := by decide +kernel
theorem dX6_addAxiom_4 : decode cX6_addAxiom 4 = .ok (.getfield 169, 3) := by decide +kernel
theorem dX6_addAxiom_7 : decode cX6_addAxiom 7 = .ok (.bipush 40, 2) := by decide +kernel
theorem dX6_addAxiom_9 : decode cX6_addAxiom 9 = .ok (.if_icmp .lt 6, 3) := by decide +kernel
theorem dX6_addAxiom_12 : decode cX6_addAxiom 12 = .ok (.bipush (-104), 2) := by decide +kernel
theorem dX6_addAxiom_14 : decode cX6_addAxiom 14 = .ok (.ireturn, 1) := by decide +kernel
theorem dX6_addAxiom_15 : decode cX6_addAxiom 15 = .ok (.aload_n 0, 1) := by decide +kernel
theorem dX6_addAxiom_16 : decode cX6_addAxiom 16 = .ok (.iconst 0, 1) := by decide +kernel
theorem dX6_addAxiom_17 : decode cX6_addAxiom 17 = .ok (.putfield 57, 3) := by decide +kernel
theorem dX6_addAxiom_20 : decode cX6_addAxiom 20 = .ok (.aload_n 0, 1) := by decide +kernel
theorem dX6_addAxiom_21 : decode cX6_addAxiom 21 = .ok (.getfield 19, 3) := by decide +kernel
theorem dX6_addAxiom_24 : decode cX6_addAxiom 24 = .ok (.iload_n 1, 1) := by decide +kernel
theorem dX6_addAxiom_25 : decode cX6_addAxiom 25 = .ok (.iload_n 2, 1) := by decide +kernel
theorem dX6_addAxiom_26 : decode cX6_addAxiom 26 = .ok (.iload_n 3, 1) := by decide +kernel
theorem dX6_addAxiom_27 : decode cX6_addAxiom 27 = .ok (.iload 4, 2) := by decide +kernel
theorem dX6_addAxiom_29 : decode cX6_addAxiom 29 = .ok (.invokevirtual 184, 3) := by decide +kernel
theorem dX6_addAxiom_32 : decode cX6_addAxiom 32 = .ok (.ireturn, 1) := by decide +kernel
theorem dX6_isUnder_0 : decode cX6_isUnder 0 = .ok (.iload_n 1, 1) := by decide +kernel
theorem dX6_isUnder_1 : decode cX6_isUnder 1 = .ok (.iconst 1, 1) := by decide +kernel
theorem dX6_isUnder_2 : decode cX6_isUnder 2 = .ok (.if_icmp .eq 39, 3) := by decide +kernel
theorem dX6_isUnder_5 : decode cX6_isUnder 5 = .ok (.aload_n 0, 1) := by decide +kernel
theorem dX6_isUnder_6 : decode cX6_isUnder 6 = .ok (.getfield 33, 3) := by decide +kernel
theorem dX6_isUnder_9 : decode cX6_isUnder 9 = .ok (.iload_n 1, 1) := by decide +kernel
theorem dX6_isUnder_10 : decode cX6_isUnder 10 = .ok (.iload_n 2, 1) := by decide +kernel
theorem dX6_isUnder_11 : decode cX6_isUnder 11 = .ok (.invokevirtual 149, 3) := by decide +kernel
theorem dX6_isUnder_14 : decode cX6_isUnder 14 = .ok (.ifCond .ne 27, 3) := by decide +kernel
theorem dX6_isUnder_17 : decode cX6_isUnder 17 = .ok (.aload_n 0, 1) := by decide +kernel
theorem dX6_isUnder_18 : decode cX6_isUnder 18 = .ok (.getfield 33, 3) := by decide +kernel
theorem dX6_isUnder_21 : decode cX6_isUnder 21 = .ok (.iload_n 1, 1) := by decide +kernel
theorem dX6_isUnder_22 : decode cX6_isUnder 22 = .ok (.iconst 1, 1) := by decide +kernel
theorem dX6_isUnder_23 : decode cX6_isUnder 23 = .ok (.invokevirtual 149, 3) := by decide +kernel
theorem dX6_isUnder_26 : decode cX6_isUnder 26 = .ok (.ifCond .ne 15, 3) := by decide +kernel
theorem dX6_isUnder_29 : decode cX6_isUnder 29 = .ok (.aload_n 0, 1) := by decide +kernel
theorem dX6_isUnder_30 : decode cX6_isUnder 30 = .ok (.getfield 33, 3) := by decide +kernel
theorem dX6_isUnder_33 : decode cX6_isUnder 33 = .ok (.iconst 0, 1) := by decide +kernel
theorem dX6_isUnder_34 : decode cX6_isUnder 34 = .ok (.iconst 1, 1) := by decide +kernel
theorem dX6_isUnder_35 : decode cX6_isUnder 35 = .ok (.invokevirtual 149, 3) := by decide +kernel
theorem dX6_isUnder_38 : decode cX6_isUnder 38 = .ok (.ifCond .eq 7, 3) := by decide +kernel
theorem dX6_isUnder_41 : decode cX6_isUnder 41 = .ok (.iconst 1, 1) := by decide +kernel
theorem dX6_isUnder_42 : decode cX6_isUnder 42 = .ok (.goto 4, 3) := by decide +kernel
theorem dX6_isUnder_45 : decode cX6_isUnder 45 = .ok (.iconst 0, 1) := by decide +kernel
theorem dX6_isUnder_46 : decode cX6_isUnder 46 = .ok (.ireturn, 1) := by decide +kernel
theorem dX6_areLike_0 : decode cX6_areLike 0 = .ok (.aload_n 0, 1) := by decide +kernel
theorem dX6_areLike_1 : decode cX6_areLike 1 = .ok (.iload_n 1, 1) := by decide +kernel
theorem dX6_areLike_2 : decode cX6_areLike 2 = .ok (.iload_n 2, 1) := by decide +kernel
theorem dX6_areLike_3 : decode cX6_areLike 3 = .ok (.invokevirtual 135, 3) := by decide +kernel
theorem dX6_areLike_6 : decode cX6_areLike 6 = .ok (.ifCond .eq 16, 3) := by decide +kernel
theorem dX6_areLike_9 : decode cX6_areLike 9 = .ok (.aload_n 0, 1) := by decide +kernel
theorem dX6_areLike_10 : decode cX6_areLike 10 = .ok (.iload_n 2, 1) := by decide +kernel
theorem dX6_areLike_11 : decode cX6_areLike 11 = .ok (.iload_n 1, 1) := by decide +kernel
theorem dX6_areLike_12 : decode cX6_areLike 12 = .ok (.invokevirtual 135, 3) := by decide +kernel
theorem dX6_areLike_15 : decode cX6_areLike 15 = .ok (.ifCond .eq 7, 3) := by decide +kernel
theorem dX6_areLike_18 : decode cX6_areLike 18 = .ok (.iconst 1, 1) := by decide +kernel
theorem dX6_areLike_19 : decode cX6_areLike 19 = .ok (.goto 4, 3) := by decide +kernel
theorem dX6_areLike_22 : decode cX6_areLike 22 = .ok (.iconst 0, 1) := by decide +kernel
theorem dX6_areLike_23 : decode cX6_areLike 23 = .ok (.ireturn, 1) := by decide +kernel
theorem dX6_leastLike_0 : decode cX6_leastLike 0 = .ok (.iconst 0, 1) := by decide +kernel
theorem dX6_leastLike_1 : decode cX6_leastLike 1 = .ok (.istore_n 2, 1) := by decide +kernel
theorem dX6_leastLike_2 : decode cX6_leastLike 2 = .ok (.iload_n 2, 1) := by decide +kernel
theorem dX6_leastLike_3 : decode cX6_leastLike 3 = .ok (.iload_n 1, 1) := by decide +kernel
theorem dX6_leastLike_4 : decode cX6_leastLike 4 = .ok (.if_icmp .ge 31, 3) := by decide +kernel
theorem dX6_leastLike_7 : decode cX6_leastLike 7 = .ok (.aload_n 0, 1) := by decide +kernel
theorem dX6_leastLike_8 : decode cX6_leastLike 8 = .ok (.getfield 12, 3) := by decide +kernel
theorem dX6_leastLike_11 : decode cX6_leastLike 11 = .ok (.iload_n 2, 1) := by decide +kernel
theorem dX6_leastLike_12 : decode cX6_leastLike 12 = .ok (.invokevirtual 132, 3) := by decide +kernel
theorem dX6_leastLike_15 : decode cX6_leastLike 15 = .ok (.ifCond .eq 14, 3) := by decide +kernel
theorem dX6_leastLike_18 : decode cX6_leastLike 18 = .ok (.aload_n 0, 1) := by decide +kernel
theorem dX6_leastLike_19 : decode cX6_leastLike 19 = .ok (.iload_n 1, 1) := by decide +kernel
theorem dX6_leastLike_20 : decode cX6_leastLike 20 = .ok (.iload_n 2, 1) := by decide +kernel
theorem dX6_leastLike_21 : decode cX6_leastLike 21 = .ok (.invokevirtual 186, 3) := by decide +kernel
theorem dX6_leastLike_24 : decode cX6_leastLike 24 = .ok (.ifCond .eq 5, 3) := by decide +kernel
theorem dX6_leastLike_27 : decode cX6_leastLike 27 = .ok (.iload_n 2, 1) := by decide +kernel
theorem dX6_leastLike_28 : decode cX6_leastLike 28 = .ok (.ireturn, 1) := by decide +kernel
theorem dX6_leastLike_29 : decode cX6_leastLike 29 = .ok (.iinc 2 1, 3) := by decide +kernel
theorem dX6_leastLike_32 : decode cX6_leastLike 32 = .ok (.goto (-30), 3) := by decide +kernel
theorem dX6_leastLike_35 : decode cX6_leastLike 35 = .ok (.iload_n 1, 1) := by decide +kernel
theorem dX6_leastLike_36 : decode cX6_leastLike 36 = .ok (.ireturn, 1) := by decide +kernel
theorem dX6_isParent_0 : decode cX6_isParent 0 = .ok (.aload_n 0, 1) := by decide +kernel
theorem dX6_isParent_1 : decode cX6_isParent 1 = .ok (.iload_n 1, 1) := by decide +kernel
theorem dX6_isParent_2 : decode cX6_isParent 2 = .ok (.iload_n 2, 1) := by decide +kernel
theorem dX6_isParent_3 : decode cX6_isParent 3 = .ok (.invokevirtual 135, 3) := by decide +kernel
theorem dX6_isParent_6 : decode cX6_isParent 6 = .ok (.ifCond .eq 21, 3) := by decide +kernel
theorem dX6_isParent_9 : decode cX6_isParent 9 = .ok (.aload_n 0, 1) := by decide +kernel
theorem dX6_isParent_10 : decode cX6_isParent 10 = .ok (.iload_n 1, 1) := by decide +kernel
theorem dX6_isParent_11 : decode cX6_isParent 11 = .ok (.iload_n 2, 1) := by decide +kernel
theorem dX6_isParent_12 : decode cX6_isParent 12 = .ok (.invokevirtual 186, 3) := by decide +kernel
theorem dX6_isParent_15 : decode cX6_isParent 15 = .ok (.ifCond .ne 12, 3) := by decide +kernel
theorem dX6_isParent_18 : decode cX6_isParent 18 = .ok (.aload_n 0, 1) := by decide +kernel
theorem dX6_isParent_19 : decode cX6_isParent 19 = .ok (.iload_n 2, 1) := by decide +kernel
theorem dX6_isParent_20 : decode cX6_isParent 20 = .ok (.invokevirtual 142, 3) := by decide +kernel
theorem dX6_isParent_23 : decode cX6_isParent 23 = .ok (.iload_n 2, 1) := by decide +kernel
theorem dX6_isParent_24 : decode cX6_isParent 24 = .ok (.if_icmp .eq 5, 3) := by decide +kernel
theorem dX6_isParent_27 : decode cX6_isParent 27 = .ok (.iconst 0, 1) := by decide +kernel
theorem dX6_isParent_28 : decode cX6_isParent 28 = .ok (.ireturn, 1) := by decide +kernel
theorem dX6_isParent_29 : decode cX6_isParent 29 = .ok (.iconst 0, 1) := by decide +kernel
theorem dX6_isParent_30 : decode cX6_isParent 30 = .ok (.istore_n 3, 1) := by decide +kernel
theorem dX6_isParent_31 : decode cX6_isParent 31 = .ok (.iload_n 3, 1) := by decide +kernel
theorem dX6_isParent_32 : decode cX6_isParent 32 = .ok (.aload_n 0, 1) := by decide +kernel
theorem dX6_isParent_33 : decode cX6_isParent 33 = .ok (.getfield 12, 3) := by decide +kernel
theorem dX6_isParent_36 : decode cX6_isParent 36 = .ok (.getfield 145, 3) := by decide +kernel
theorem dX6_isParent_39 : decode cX6_isParent 39 = .ok (.if_icmp .ge 70, 3) := by decide +kernel
theorem dX6_isParent_42 : decode cX6_isParent 42 = .ok (.aload_n 0, 1) := by decide +kernel
theorem dX6_isParent_43 : decode cX6_isParent 43 = .ok (.getfield 12, 3) := by decide +kernel
theorem dX6_isParent_46 : decode cX6_isParent 46 = .ok (.iload_n 3, 1) := by decide +kernel
theorem dX6_isParent_47 : decode cX6_isParent 47 = .ok (.invokevirtual 132, 3) := by decide +kernel
theorem dX6_isParent_50 : decode cX6_isParent 50 = .ok (.ifCond .eq 25, 3) := by decide +kernel
theorem dX6_isParent_53 : decode cX6_isParent 53 = .ok (.aload_n 0, 1) := by decide +kernel
theorem dX6_isParent_54 : decode cX6_isParent 54 = .ok (.iload_n 1, 1) := by decide +kernel
theorem dX6_isParent_55 : decode cX6_isParent 55 = .ok (.iload_n 3, 1) := by decide +kernel
theorem dX6_isParent_56 : decode cX6_isParent 56 = .ok (.invokevirtual 135, 3) := by decide +kernel
theorem dX6_isParent_59 : decode cX6_isParent 59 = .ok (.ifCond .eq 16, 3) := by decide +kernel
theorem dX6_isParent_62 : decode cX6_isParent 62 = .ok (.aload_n 0, 1) := by decide +kernel
theorem dX6_isParent_63 : decode cX6_isParent 63 = .ok (.iload_n 3, 1) := by decide +kernel
theorem dX6_isParent_64 : decode cX6_isParent 64 = .ok (.iload_n 2, 1) := by decide +kernel
theorem dX6_isParent_65 : decode cX6_isParent 65 = .ok (.invokevirtual 135, 3) := by decide +kernel
theorem dX6_isParent_68 : decode cX6_isParent 68 = .ok (.ifCond .eq 7, 3) := by decide +kernel
theorem dX6_isParent_71 : decode cX6_isParent 71 = .ok (.iconst 1, 1) := by decide +kernel
theorem dX6_isParent_72 : decode cX6_isParent 72 = .ok (.goto 4, 3) := by decide +kernel
theorem dX6_isParent_75 : decode cX6_isParent 75 = .ok (.iconst 0, 1) := by decide +kernel
theorem dX6_isParent_76 : decode cX6_isParent 76 = .ok (.istore 4, 2) := by decide +kernel
theorem dX6_isParent_78 : decode cX6_isParent 78 = .ok (.iload 4, 2) := by decide +kernel
theorem dX6_isParent_80 : decode cX6_isParent 80 = .ok (.ifCond .eq 23, 3) := by decide +kernel
theorem dX6_isParent_83 : decode cX6_isParent 83 = .ok (.aload_n 0, 1) := by decide +kernel
theorem dX6_isParent_84 : decode cX6_isParent 84 = .ok (.iload_n 3, 1) := by decide +kernel
theorem dX6_isParent_85 : decode cX6_isParent 85 = .ok (.iload_n 1, 1) := by decide +kernel
theorem dX6_isParent_86 : decode cX6_isParent 86 = .ok (.invokevirtual 186, 3) := by decide +kernel
theorem dX6_isParent_89 : decode cX6_isParent 89 = .ok (.ifCond .ne 14, 3) := by decide +kernel
theorem dX6_isParent_92 : decode cX6_isParent 92 = .ok (.aload_n 0, 1) := by decide +kernel
theorem dX6_isParent_93 : decode cX6_isParent 93 = .ok (.iload_n 3, 1) := by decide +kernel
theorem dX6_isParent_94 : decode cX6_isParent 94 = .ok (.iload_n 2, 1) := by decide +kernel
theorem dX6_isParent_95 : decode cX6_isParent 95 = .ok (.invokevirtual 186, 3) := by decide +kernel
theorem dX6_isParent_98 : decode cX6_isParent 98 = .ok (.ifCond .ne 5, 3) := by decide +kernel
theorem dX6_isParent_101 : decode cX6_isParent 101 = .ok (.iconst 0, 1) := by decide +kernel
theorem dX6_isParent_102 : decode cX6_isParent 102 = .ok (.ireturn, 1) := by decide +kernel
theorem dX6_isParent_103 : decode cX6_isParent 103 = .ok (.iinc 3 1, 3) := by decide +kernel
theorem dX6_isParent_106 : decode cX6_isParent 106 = .ok (.goto (-75), 3) := by decide +kernel
theorem dX6_isParent_109 : decode cX6_isParent 109 = .ok (.iconst 1, 1) := by decide +kernel
theorem dX6_isParent_110 : decode cX6_isParent 110 = .ok (.ireturn, 1) := by decide +kernel
theorem dX6_isSo_0 : decode cX6_isSo 0 = .ok (.aload_n 0, 1) := by decide +kernel
theorem dX6_isSo_1 : decode cX6_isSo 1 = .ok (.getfield 19, 3) := by decide +kernel
theorem dX6_isSo_4 : decode cX6_isSo 4 = .ok (.iload_n 1, 1) := by decide +kernel
theorem dX6_isSo_5 : decode cX6_isSo 5 = .ok (.iconst 1, 1) := by decide +kernel
theorem dX6_isSo_6 : decode cX6_isSo 6 = .ok (.invokevirtual 106, 3) := by decide +kernel
theorem dX6_isSo_9 : decode cX6_isSo 9 = .ok (.istore_n 2, 1) := by decide +kernel
theorem dX6_isSo_10 : decode cX6_isSo 10 = .ok (.aload_n 0, 1) := by decide +kernel
theorem dX6_isSo_11 : decode cX6_isSo 11 = .ok (.getfield 19, 3) := by decide +kernel
theorem dX6_isSo_14 : decode cX6_isSo 14 = .ok (.iload_n 1, 1) := by decide +kernel
theorem dX6_isSo_15 : decode cX6_isSo 15 = .ok (.iconst 2, 1) := by decide +kernel
theorem dX6_isSo_16 : decode cX6_isSo 16 = .ok (.invokevirtual 106, 3) := by decide +kernel
theorem dX6_isSo_19 : decode cX6_isSo 19 = .ok (.istore_n 3, 1) := by decide +kernel
theorem dX6_isSo_20 : decode cX6_isSo 20 = .ok (.aload_n 0, 1) := by decide +kernel
theorem dX6_isSo_21 : decode cX6_isSo 21 = .ok (.getfield 19, 3) := by decide +kernel
theorem dX6_isSo_24 : decode cX6_isSo 24 = .ok (.iload_n 1, 1) := by decide +kernel
theorem dX6_isSo_25 : decode cX6_isSo 25 = .ok (.iconst 0, 1) := by decide +kernel
theorem dX6_isSo_26 : decode cX6_isSo 26 = .ok (.invokevirtual 106, 3) := by decide +kernel
theorem dX6_isSo_29 : decode cX6_isSo 29 = .ok (.lookupswitch 65 #[(0, 27), (1, 55)], 27) := by decide +kernel
theorem dX6_isSo_56 : decode cX6_isSo 56 = .ok (.aload_n 0, 1) := by decide +kernel
theorem dX6_isSo_57 : decode cX6_isSo 57 = .ok (.getfield 49, 3) := by decide +kernel
theorem dX6_isSo_60 : decode cX6_isSo 60 = .ok (.iload_n 2, 1) := by decide +kernel
theorem dX6_isSo_61 : decode cX6_isSo 61 = .ok (.invokevirtual 152, 3) := by decide +kernel
theorem dX6_isSo_64 : decode cX6_isSo 64 = .ok (.aload_n 0, 1) := by decide +kernel
theorem dX6_isSo_65 : decode cX6_isSo 65 = .ok (.getfield 49, 3) := by decide +kernel
theorem dX6_isSo_68 : decode cX6_isSo 68 = .ok (.iload_n 3, 1) := by decide +kernel
theorem dX6_isSo_69 : decode cX6_isSo 69 = .ok (.invokevirtual 152, 3) := by decide +kernel
theorem dX6_isSo_72 : decode cX6_isSo 72 = .ok (.iconst (-1), 1) := by decide +kernel
theorem dX6_isSo_73 : decode cX6_isSo 73 = .ok (.ixor, 1) := by decide +kernel
theorem dX6_isSo_74 : decode cX6_isSo 74 = .ok (.iand, 1) := by decide +kernel
theorem dX6_isSo_75 : decode cX6_isSo 75 = .ok (.ifCond .ne 7, 3) := by decide +kernel
theorem dX6_isSo_78 : decode cX6_isSo 78 = .ok (.iconst 1, 1) := by decide +kernel
theorem dX6_isSo_79 : decode cX6_isSo 79 = .ok (.goto 4, 3) := by decide +kernel
theorem dX6_isSo_82 : decode cX6_isSo 82 = .ok (.iconst 0, 1) := by decide +kernel
theorem dX6_isSo_83 : decode cX6_isSo 83 = .ok (.ireturn, 1) := by decide +kernel
theorem dX6_isSo_84 : decode cX6_isSo 84 = .ok (.aload_n 0, 1) := by decide +kernel
theorem dX6_isSo_85 : decode cX6_isSo 85 = .ok (.getfield 49, 3) := by decide +kernel
theorem dX6_isSo_88 : decode cX6_isSo 88 = .ok (.iload_n 2, 1) := by decide +kernel
theorem dX6_isSo_89 : decode cX6_isSo 89 = .ok (.iload_n 3, 1) := by decide +kernel
theorem dX6_isSo_90 : decode cX6_isSo 90 = .ok (.invokevirtual 189, 3) := by decide +kernel
theorem dX6_isSo_93 : decode cX6_isSo 93 = .ok (.ireturn, 1) := by decide +kernel
theorem dX6_isSo_94 : decode cX6_isSo 94 = .ok (.aload_n 0, 1) := by decide +kernel
theorem dX6_isSo_95 : decode cX6_isSo 95 = .ok (.getfield 49, 3) := by decide +kernel
theorem dX6_isSo_98 : decode cX6_isSo 98 = .ok (.iload_n 2, 1) := by decide +kernel
theorem dX6_isSo_99 : decode cX6_isSo 99 = .ok (.iload_n 3, 1) := by decide +kernel
theorem dX6_isSo_100 : decode cX6_isSo 100 = .ok (.aload_n 0, 1) := by decide +kernel
theorem dX6_isSo_101 : decode cX6_isSo 101 = .ok (.getfield 19, 3) := by decide +kernel
theorem dX6_isSo_104 : decode cX6_isSo 104 = .ok (.iload_n 1, 1) := by decide +kernel
theorem dX6_isSo_105 : decode cX6_isSo 105 = .ok (.iconst 3, 1) := by decide +kernel
theorem dX6_isSo_106 : decode cX6_isSo 106 = .ok (.invokevirtual 106, 3) := by decide +kernel
theorem dX6_isSo_109 : decode cX6_isSo 109 = .ok (.invokevirtual 192, 3) := by decide +kernel
theorem dX6_isSo_112 : decode cX6_isSo 112 = .ok (.ireturn, 1) := by decide +kernel
theorem dX6_within_0 : decode cX6_within 0 = .ok (.iload_n 0, 1) := by decide +kernel
theorem dX6_within_1 : decode cX6_within 1 = .ok (.ifCond .lt 12, 3) := by decide +kernel
theorem dX6_within_4 : decode cX6_within 4 = .ok (.iload_n 0, 1) := by decide +kernel
theorem dX6_within_5 : decode cX6_within 5 = .ok (.iload_n 1, 1) := by decide +kernel
theorem dX6_within_6 : decode cX6_within 6 = .ok (.if_icmp .ge 7, 3) := by decide +kernel
theorem dX6_within_9 : decode cX6_within 9 = .ok (.iconst 1, 1) := by decide +kernel
theorem dX6_within_10 : decode cX6_within 10 = .ok (.goto 4, 3) := by decide +kernel
theorem dX6_within_13 : decode cX6_within 13 = .ok (.iconst 0, 1) := by decide +kernel
theorem dX6_within_14 : decode cX6_within 14 = .ok (.ireturn, 1) := by decide +kernel
theorem dX6_isRole_0 : decode cX6_isRole 0 = .ok (.iload_n 0, 1) := by decide +kernel
theorem dX6_isRole_1 : decode cX6_isRole 1 = .ok (.iconst 4, 1) := by decide +kernel
theorem dX6_isRole_2 : decode cX6_isRole 2 = .ok (.invokestatic 98, 3) := by decide +kernel
theorem dX6_isRole_5 : decode cX6_isRole 5 = .ok (.ireturn, 1) := by decide +kernel
theorem dX6_oneIf_0 : decode cX6_oneIf 0 = .ok (.iload_n 0, 1) := by decide +kernel
theorem dX6_oneIf_1 : decode cX6_oneIf 1 = .ok (.ifCond .eq 7, 3) := by decide +kernel
theorem dX6_oneIf_4 : decode cX6_oneIf 4 = .ok (.iconst 1, 1) := by decide +kernel
theorem dX6_oneIf_5 : decode cX6_oneIf 5 = .ok (.goto 4, 3) := by decide +kernel
theorem dX6_oneIf_8 : decode cX6_oneIf 8 = .ok (.iconst 0, 1) := by decide +kernel
theorem dX6_oneIf_9 : decode cX6_oneIf 9 = .ok (.ireturn, 1) := by decide +kernel
theorem dX6_bit_0 : decode cX6_bit 0 = .ok (.iload_n 0, 1) := by decide +kernel
theorem dX6_bit_1 : decode cX6_bit 1 = .ok (.bipush 20, 2) := by decide +kernel
theorem dX6_bit_3 : decode cX6_bit 3 = .ok (.invokestatic 98, 3) := by decide +kernel
theorem dX6_bit_6 : decode cX6_bit 6 = .ok (.ifCond .eq 9, 3) := by decide +kernel
theorem dX6_bit_9 : decode cX6_bit 9 = .ok (.iconst 1, 1) := by decide +kernel
theorem dX6_bit_10 : decode cX6_bit 10 = .ok (.iload_n 0, 1) := by decide +kernel
theorem dX6_bit_11 : decode cX6_bit 11 = .ok (.ishl, 1) := by decide +kernel
theorem dX6_bit_12 : decode cX6_bit 12 = .ok (.goto 4, 3) := by decide +kernel
theorem dX6_bit_15 : decode cX6_bit 15 = .ok (.iconst 0, 1) := by decide +kernel
theorem dX6_bit_16 : decode cX6_bit 16 = .ok (.ireturn, 1) := by decide +kernel
theorem dX6_hasBit_0 : decode cX6_hasBit 0 = .ok (.iload_n 0, 1) := by decide +kernel
theorem dX6_hasBit_1 : decode cX6_hasBit 1 = .ok (.iload_n 1, 1) := by decide +kernel
theorem dX6_hasBit_2 : decode cX6_hasBit 2 = .ok (.invokestatic 196, 3) := by decide +kernel
theorem dX6_hasBit_5 : decode cX6_hasBit 5 = .ok (.iand, 1) := by decide +kernel
theorem dX6_hasBit_6 : decode cX6_hasBit 6 = .ok (.ifCond .eq 7, 3) := by decide +kernel
theorem dX6_hasBit_9 : decode cX6_hasBit 9 = .ok (.iconst 1, 1) := by decide +kernel
theorem dX6_hasBit_10 : decode cX6_hasBit 10 = .ok (.goto 4, 3) := by decide +kernel
theorem dX6_hasBit_13 : decode cX6_hasBit 13 = .ok (.iconst 0, 1) := by decide +kernel
theorem dX6_hasBit_14 : decode cX6_hasBit 14 = .ok (.ireturn, 1) := by decide +kernel
theorem dX6_at_0 : decode cX6_at 0 = .ok (.iload_n 1, 1) := by decide +kernel
theorem dX6_at_1 : decode cX6_at 1 = .ok (.ifCond .lt 15, 3) := by decide +kernel
theorem dX6_at_4 : decode cX6_at 4 = .ok (.iload_n 1, 1) := by decide +kernel
theorem dX6_at_5 : decode cX6_at 5 = .ok (.aload_n 0, 1) := by decide +kernel
theorem dX6_at_6 : decode cX6_at 6 = .ok (.arraylength, 1) := by decide +kernel
theorem dX6_at_7 : decode cX6_at 7 = .ok (.if_icmp .ge 9, 3) := by decide +kernel
theorem dX6_at_10 : decode cX6_at 10 = .ok (.aload_n 0, 1) := by decide +kernel
theorem dX6_at_11 : decode cX6_at 11 = .ok (.iload_n 1, 1) := by decide +kernel
theorem dX6_at_12 : decode cX6_at 12 = .ok (.iaload, 1) := by decide +kernel
theorem dX6_at_13 : decode cX6_at 13 = .ok (.goto 4, 3) := by decide +kernel
theorem dX6_at_16 : decode cX6_at 16 = .ok (.iconst (-1), 1) := by decide +kernel
theorem dX6_at_17 : decode cX6_at 17 = .ok (.ireturn, 1) := by decide +kernel
theorem dX6_put_0 : decode cX6_put 0 = .ok (.iload_n 1, 1) := by decide +kernel
theorem dX6_put_1 : decode cX6_put 1 = .ok (.ifCond .lt 13, 3) := by decide +kernel
theorem dX6_put_4 : decode cX6_put 4 = .ok (.iload_n 1, 1) := by decide +kernel
theorem dX6_put_5 : decode cX6_put 5 = .ok (.aload_n 0, 1) := by decide +kernel
theorem dX6_put_6 : decode cX6_put 6 = .ok (.arraylength, 1) := by decide +kernel
theorem dX6_put_7 : decode cX6_put 7 = .ok (.if_icmp .ge 7, 3) := by decide +kernel
theorem dX6_put_10 : decode cX6_put 10 = .ok (.aload_n 0, 1) := by decide +kernel
theorem dX6_put_11 : decode cX6_put 11 = .ok (.iload_n 1, 1) := by decide +kernel
theorem dX6_put_12 : decode cX6_put 12 = .ok (.iload_n 2, 1) := by decide +kernel
theorem dX6_put_13 : decode cX6_put 13 = .ok (.iastore, 1) := by decide +kernel
theorem dX6_put_14 : decode cX6_put 14 = .ok (.return_, 1) := by decide +kernel
theorem dX6_longAt_0 : decode cX6_longAt 0 = .ok (.iload_n 1, 1) := by decide +kernel
theorem dX6_longAt_1 : decode cX6_longAt 1 = .ok (.ifCond .lt 15, 3) := by decide +kernel
theorem dX6_longAt_4 : decode cX6_longAt 4 = .ok (.iload_n 1, 1) := by decide +kernel
theorem dX6_longAt_5 : decode cX6_longAt 5 = .ok (.aload_n 0, 1) := by decide +kernel
theorem dX6_longAt_6 : decode cX6_longAt 6 = .ok (.arraylength, 1) := by decide +kernel
theorem dX6_longAt_7 : decode cX6_longAt 7 = .ok (.if_icmp .ge 9, 3) := by decide +kernel
theorem dX6_longAt_10 : decode cX6_longAt 10 = .ok (.aload_n 0, 1) := by decide +kernel
theorem dX6_longAt_11 : decode cX6_longAt 11 = .ok (.iload_n 1, 1) := by decide +kernel
theorem dX6_longAt_12 : decode cX6_longAt 12 = .ok (.laload, 1) := by decide +kernel
theorem dX6_longAt_13 : decode cX6_longAt 13 = .ok (.goto 6, 3) := by decide +kernel
theorem dX6_longAt_16 : decode cX6_longAt 16 = .ok (.ldc2_w 199, 3) := by decide +kernel
theorem dX6_longAt_19 : decode cX6_longAt 19 = .ok (.lreturn, 1) := by decide +kernel
theorem dX6_putLong_0 : decode cX6_putLong 0 = .ok (.iload_n 1, 1) := by decide +kernel
theorem dX6_putLong_1 : decode cX6_putLong 1 = .ok (.ifCond .lt 13, 3) := by decide +kernel
theorem dX6_putLong_4 : decode cX6_putLong 4 = .ok (.iload_n 1, 1) := by decide +kernel
theorem dX6_putLong_5 : decode cX6_putLong 5 = .ok (.aload_n 0, 1) := by decide +kernel
theorem dX6_putLong_6 : decode cX6_putLong 6 = .ok (.arraylength, 1) := by decide +kernel
theorem dX6_putLong_7 : decode cX6_putLong 7 = .ok (.if_icmp .ge 7, 3) := by decide +kernel
theorem dX6_putLong_10 : decode cX6_putLong 10 = .ok (.aload_n 0, 1) := by decide +kernel
theorem dX6_putLong_11 : decode cX6_putLong 11 = .ok (.iload_n 1, 1) := by decide +kernel
theorem dX6_putLong_12 : decode cX6_putLong 12 = .ok (.lload_n 2, 1) := by decide +kernel
theorem dX6_putLong_13 : decode cX6_putLong 13 = .ok (.lastore, 1) := by decide +kernel
theorem dX6_putLong_14 : decode cX6_putLong 14 = .ok (.return_, 1) := by decide +kernel
theorem dX6_fill_0 : decode cX6_fill 0 = .ok (.iconst 0, 1) := by decide +kernel
theorem dX6_fill_1 : decode cX6_fill 1 = .ok (.istore_n 2, 1) := by decide +kernel
theorem dX6_fill_2 : decode cX6_fill 2 = .ok (.iload_n 2, 1) := by decide +kernel
theorem dX6_fill_3 : decode cX6_fill 3 = .ok (.aload_n 0, 1) := by decide +kernel
theorem dX6_fill_4 : decode cX6_fill 4 = .ok (.arraylength, 1) := by decide +kernel
theorem dX6_fill_5 : decode cX6_fill 5 = .ok (.if_icmp .ge 13, 3) := by decide +kernel
theorem dX6_fill_8 : decode cX6_fill 8 = .ok (.aload_n 0, 1) := by decide +kernel
theorem dX6_fill_9 : decode cX6_fill 9 = .ok (.iload_n 2, 1) := by decide +kernel
theorem dX6_fill_10 : decode cX6_fill 10 = .ok (.iload_n 1, 1) := by decide +kernel
theorem dX6_fill_11 : decode cX6_fill 11 = .ok (.iastore, 1) := by decide +kernel
theorem dX6_fill_12 : decode cX6_fill 12 = .ok (.iinc 2 1, 3) := by decide +kernel
theorem dX6_fill_15 : decode cX6_fill 15 = .ok (.goto (-13), 3) := by decide +kernel
theorem dX6_fill_18 : decode cX6_fill 18 = .ok (.return_, 1) := by decide +kernel
theorem dX6_placeOfIs_0 : decode cX6_placeOfIs 0 = .ok (.iload_n 0, 1) := by decide +kernel
theorem dX6_placeOfIs_1 : decode cX6_placeOfIs 1 = .ok (.bipush 100, 2) := by decide +kernel
theorem dX6_placeOfIs_3 : decode cX6_placeOfIs 3 = .ok (.imul, 1) := by decide +kernel
theorem dX6_placeOfIs_4 : decode cX6_placeOfIs 4 = .ok (.iload_n 1, 1) := by decide +kernel
theorem dX6_placeOfIs_5 : decode cX6_placeOfIs 5 = .ok (.iadd, 1) := by decide +kernel
theorem dX6_placeOfIs_6 : decode cX6_placeOfIs 6 = .ok (.ireturn, 1) := by decide +kernel
theorem dX6_placeOfTo_0 : decode cX6_placeOfTo 0 = .ok (.iload_n 0, 1) := by decide +kernel
theorem dX6_placeOfTo_1 : decode cX6_placeOfTo 1 = .ok (.bipush 100, 2) := by decide +kernel
theorem dX6_placeOfTo_3 : decode cX6_placeOfTo 3 = .ok (.imul, 1) := by decide +kernel
theorem dX6_placeOfTo_4 : decode cX6_placeOfTo 4 = .ok (.bipush 20, 2) := by decide +kernel
theorem dX6_placeOfTo_6 : decode cX6_placeOfTo 6 = .ok (.iadd, 1) := by decide +kernel
theorem dX6_placeOfTo_7 : decode cX6_placeOfTo 7 = .ok (.iload_n 1, 1) := by decide +kernel
theorem dX6_placeOfTo_8 : decode cX6_placeOfTo 8 = .ok (.bipush 20, 2) := by decide +kernel
theorem dX6_placeOfTo_10 : decode cX6_placeOfTo 10 = .ok (.imul, 1) := by decide +kernel
theorem dX6_placeOfTo_11 : decode cX6_placeOfTo 11 = .ok (.iadd, 1) := by decide +kernel
theorem dX6_placeOfTo_12 : decode cX6_placeOfTo 12 = .ok (.iload_n 2, 1) := by decide +kernel
theorem dX6_placeOfTo_13 : decode cX6_placeOfTo 13 = .ok (.iadd, 1) := by decide +kernel
theorem dX6_placeOfTo_14 : decode cX6_placeOfTo 14 = .ok (.ireturn, 1) := by decide +kernel
theorem dX6_subjectAt_0 : decode cX6_subjectAt 0 = .ok (.iload_n 0, 1) := by decide +kernel
theorem dX6_subjectAt_1 : decode cX6_subjectAt 1 = .ok (.bipush 100, 2) := by decide +kernel
theorem dX6_subjectAt_3 : decode cX6_subjectAt 3 = .ok (.idiv, 1) := by decide +kernel
theorem dX6_subjectAt_4 : decode cX6_subjectAt 4 = .ok (.ireturn, 1) := by decide +kernel
theorem dX6_objectAt_0 : decode cX6_objectAt 0 = .ok (.iload_n 0, 1) := by decide +kernel
theorem dX6_objectAt_1 : decode cX6_objectAt 1 = .ok (.bipush 100, 2) := by decide +kernel
theorem dX6_objectAt_3 : decode cX6_objectAt 3 = .ok (.irem, 1) := by decide +kernel
theorem dX6_objectAt_4 : decode cX6_objectAt 4 = .ok (.bipush 20, 2) := by decide +kernel
theorem dX6_objectAt_6 : decode cX6_objectAt 6 = .ok (.irem, 1) := by decide +kernel
theorem dX6_objectAt_7 : decode cX6_objectAt 7 = .ok (.ireturn, 1) := by decide +kernel
theorem dX6_roleAt_0 : decode cX6_roleAt 0 = .ok (.iload_n 0, 1) := by decide +kernel
theorem dX6_roleAt_1 : decode cX6_roleAt 1 = .ok (.bipush 100, 2) := by decide +kernel
theorem dX6_roleAt_3 : decode cX6_roleAt 3 = .ok (.irem, 1) := by decide +kernel
theorem dX6_roleAt_4 : decode cX6_roleAt 4 = .ok (.bipush 20, 2) := by decide +kernel
theorem dX6_roleAt_6 : decode cX6_roleAt 6 = .ok (.idiv, 1) := by decide +kernel
theorem dX6_roleAt_7 : decode cX6_roleAt 7 = .ok (.iconst 1, 1) := by decide +kernel
theorem dX6_roleAt_8 : decode cX6_roleAt 8 = .ok (.isub, 1) := by decide +kernel
theorem dX6_roleAt_9 : decode cX6_roleAt 9 = .ok (.ireturn, 1) := by decide +kernel
theorem dX6_whyOf_0 : decode cX6_whyOf 0 = .ok (.iload_n 0, 1) := by decide +kernel
theorem dX6_whyOf_1 : decode cX6_whyOf 1 = .ok (.i2l, 1) := by decide +kernel
theorem dX6_whyOf_2 : decode cX6_whyOf 2 = .ok (.bipush 28, 2) := by decide +kernel
theorem dX6_whyOf_4 : decode cX6_whyOf 4 = .ok (.lshl, 1) := by decide +kernel
theorem dX6_whyOf_5 : decode cX6_whyOf 5 = .ok (.iload_n 1, 1) := by decide +kernel
theorem dX6_whyOf_6 : decode cX6_whyOf 6 = .ok (.iconst 1, 1) := by decide +kernel
theorem dX6_whyOf_7 : decode cX6_whyOf 7 = .ok (.iadd, 1) := by decide +kernel
theorem dX6_whyOf_8 : decode cX6_whyOf 8 = .ok (.i2l, 1) := by decide +kernel
theorem dX6_whyOf_9 : decode cX6_whyOf 9 = .ok (.bipush 17, 2) := by decide +kernel
theorem dX6_whyOf_11 : decode cX6_whyOf 11 = .ok (.lshl, 1) := by decide +kernel
theorem dX6_whyOf_12 : decode cX6_whyOf 12 = .ok (.lor, 1) := by decide +kernel
theorem dX6_whyOf_13 : decode cX6_whyOf 13 = .ok (.iload_n 2, 1) := by decide +kernel
theorem dX6_whyOf_14 : decode cX6_whyOf 14 = .ok (.iconst 1, 1) := by decide +kernel
theorem dX6_whyOf_15 : decode cX6_whyOf 15 = .ok (.iadd, 1) := by decide +kernel
theorem dX6_whyOf_16 : decode cX6_whyOf 16 = .ok (.i2l, 1) := by decide +kernel
theorem dX6_whyOf_17 : decode cX6_whyOf 17 = .ok (.bipush 6, 2) := by decide +kernel
theorem dX6_whyOf_19 : decode cX6_whyOf 19 = .ok (.lshl, 1) := by decide +kernel
theorem dX6_whyOf_20 : decode cX6_whyOf 20 = .ok (.lor, 1) := by decide +kernel
theorem dX6_whyOf_21 : decode cX6_whyOf 21 = .ok (.iload_n 3, 1) := by decide +kernel
theorem dX6_whyOf_22 : decode cX6_whyOf 22 = .ok (.iconst 1, 1) := by decide +kernel
theorem dX6_whyOf_23 : decode cX6_whyOf 23 = .ok (.iadd, 1) := by decide +kernel
theorem dX6_whyOf_24 : decode cX6_whyOf 24 = .ok (.i2l, 1) := by decide +kernel
theorem dX6_whyOf_25 : decode cX6_whyOf 25 = .ok (.lor, 1) := by decide +kernel
theorem dX6_whyOf_26 : decode cX6_whyOf 26 = .ok (.lreturn, 1) := by decide +kernel
theorem dX6_whyOfTwo_0 : decode cX6_whyOfTwo 0 = .ok (.iload_n 2, 1) := by decide +kernel
theorem dX6_whyOfTwo_1 : decode cX6_whyOfTwo 1 = .ok (.iconst (-1), 1) := by decide +kernel
theorem dX6_whyOfTwo_2 : decode cX6_whyOfTwo 2 = .ok (.if_icmp .ne 9, 3) := by decide +kernel
theorem dX6_whyOfTwo_5 : decode cX6_whyOfTwo 5 = .ok (.ldc2_w 199, 3) := by decide +kernel
theorem dX6_whyOfTwo_8 : decode cX6_whyOfTwo 8 = .ok (.goto 10, 3) := by decide +kernel
theorem dX6_whyOfTwo_11 : decode cX6_whyOfTwo 11 = .ok (.iload_n 0, 1) := by decide +kernel
theorem dX6_whyOfTwo_12 : decode cX6_whyOfTwo 12 = .ok (.iload_n 1, 1) := by decide +kernel
theorem dX6_whyOfTwo_13 : decode cX6_whyOfTwo 13 = .ok (.iload_n 2, 1) := by decide +kernel
theorem dX6_whyOfTwo_14 : decode cX6_whyOfTwo 14 = .ok (.iconst (-1), 1) := by decide +kernel
theorem dX6_whyOfTwo_15 : decode cX6_whyOfTwo 15 = .ok (.invokestatic 201, 3) := by decide +kernel
theorem dX6_whyOfTwo_18 : decode cX6_whyOfTwo 18 = .ok (.lreturn, 1) := by decide +kernel
theorem dX6_partOfWhy_0 : decode cX6_partOfWhy 0 = .ok (.lload_n 0, 1) := by decide +kernel
theorem dX6_partOfWhy_1 : decode cX6_partOfWhy 1 = .ok (.iload_n 2, 1) := by decide +kernel
theorem dX6_partOfWhy_2 : decode cX6_partOfWhy 2 = .ok (.lshr, 1) := by decide +kernel
theorem dX6_partOfWhy_3 : decode cX6_partOfWhy 3 = .ok (.l2i, 1) := by decide +kernel
theorem dX6_partOfWhy_4 : decode cX6_partOfWhy 4 = .ok (.iconst 1, 1) := by decide +kernel
theorem dX6_partOfWhy_5 : decode cX6_partOfWhy 5 = .ok (.iload_n 3, 1) := by decide +kernel
theorem dX6_partOfWhy_6 : decode cX6_partOfWhy 6 = .ok (.ishl, 1) := by decide +kernel
theorem dX6_partOfWhy_7 : decode cX6_partOfWhy 7 = .ok (.iconst 1, 1) := by decide +kernel
theorem dX6_partOfWhy_8 : decode cX6_partOfWhy 8 = .ok (.isub, 1) := by decide +kernel
theorem dX6_partOfWhy_9 : decode cX6_partOfWhy 9 = .ok (.iand, 1) := by decide +kernel
theorem dX6_partOfWhy_10 : decode cX6_partOfWhy 10 = .ok (.ireturn, 1) := by decide +kernel
theorem dX7_init_0 : decode cX7_init 0 = .ok (.aload_n 0, 1) := by decide +kernel
theorem dX7_init_1 : decode cX7_init 1 = .ok (.invokespecial 1, 3) := by decide +kernel
theorem dX7_init_4 : decode cX7_init 4 = .ok (.aload_n 0, 1) := by decide +kernel
theorem dX7_init_5 : decode cX7_init 5 = .ok (.bipush 28, 2) := by decide +kernel
theorem dX7_init_7 : decode cX7_init 7 = .ok (.newarray .int, 2) := by decide +kernel
theorem dX7_init_9 : decode cX7_init 9 = .ok (.putfield 7, 3) := by decide +kernel
theorem dX7_init_12 : decode cX7_init 12 = .ok (.aload_n 0, 1) := by decide +kernel
theorem dX7_init_13 : decode cX7_init 13 = .ok (.bipush 28, 2) := by decide +kernel
theorem dX7_init_15 : decode cX7_init 15 = .ok (.newarray .int, 2) := by decide +kernel
theorem dX7_init_17 : decode cX7_init 17 = .ok (.putfield 13, 3) := by decide +kernel
theorem dX7_init_20 : decode cX7_init 20 = .ok (.aload_n 0, 1) := by decide +kernel
theorem dX7_init_21 : decode cX7_init 21 = .ok (.bipush 28, 2) := by decide +kernel
theorem dX7_init_23 : decode cX7_init 23 = .ok (.newarray .int, 2) := by decide +kernel
theorem dX7_init_25 : decode cX7_init 25 = .ok (.putfield 16, 3) := by decide +kernel
theorem dX7_init_28 : decode cX7_init 28 = .ok (.aload_n 0, 1) := by decide +kernel
theorem dX7_init_29 : decode cX7_init 29 = .ok (.bipush 40, 2) := by decide +kernel
theorem dX7_init_31 : decode cX7_init 31 = .ok (.newarray .int, 2) := by decide +kernel
theorem dX7_init_33 : decode cX7_init 33 = .ok (.putfield 19, 3) := by decide +kernel
theorem dX7_init_36 : decode cX7_init 36 = .ok (.aload_n 0, 1) := by decide +kernel
theorem dX7_init_37 : decode cX7_init 37 = .ok (.bipush 40, 2) := by decide +kernel
theorem dX7_init_39 : decode cX7_init 39 = .ok (.newarray .int, 2) := by decide +kernel
theorem dX7_init_41 : decode cX7_init 41 = .ok (.putfield 22, 3) := by decide +kernel
theorem dX7_init_44 : decode cX7_init 44 = .ok (.aload_n 0, 1) := by decide +kernel
theorem dX7_init_45 : decode cX7_init 45 = .ok (.bipush 40, 2) := by decide +kernel
theorem dX7_init_47 : decode cX7_init 47 = .ok (.newarray .int, 2) := by decide +kernel
theorem dX7_init_49 : decode cX7_init 49 = .ok (.putfield 25, 3) := by decide +kernel
theorem dX7_init_52 : decode cX7_init 52 = .ok (.aload_n 0, 1) := by decide +kernel
theorem dX7_init_53 : decode cX7_init 53 = .ok (.bipush 40, 2) := by decide +kernel
theorem dX7_init_55 : decode cX7_init 55 = .ok (.newarray .int, 2) := by decide +kernel
theorem dX7_init_57 : decode cX7_init 57 = .ok (.putfield 28, 3) := by decide +kernel
theorem dX7_init_60 : decode cX7_init 60 = .ok (.aload_n 0, 1) := by decide +kernel
theorem dX7_init_61 : decode cX7_init 61 = .ok (.bipush 40, 2) := by decide +kernel
theorem dX7_init_63 : decode cX7_init 63 = .ok (.newarray .boolean, 2) := by decide +kernel
theorem dX7_init_65 : decode cX7_init 65 = .ok (.putfield 31, 3) := by decide +kernel
theorem dX7_init_68 : decode cX7_init 68 = .ok (.aload_n 0, 1) := by decide +kernel
theorem dX7_init_69 : decode cX7_init 69 = .ok (.ldc 35, 2) := by decide +kernel
theorem dX7_init_71 : decode cX7_init 71 = .ok (.newarray .int, 2) := by decide +kernel
theorem dX7_init_73 : decode cX7_init 73 = .ok (.putfield 36, 3) := by decide +kernel
theorem dX7_init_76 : decode cX7_init 76 = .ok (.aload_n 0, 1) := by decide +kernel
theorem dX7_init_77 : decode cX7_init 77 = .ok (.sipush 784, 3) := by decide +kernel
theorem dX7_init_80 : decode cX7_init 80 = .ok (.newarray .int, 2) := by decide +kernel
theorem dX7_init_82 : decode cX7_init 82 = .ok (.putfield 39, 3) := by decide +kernel
theorem dX7_init_85 : decode cX7_init 85 = .ok (.aload_n 0, 1) := by decide +kernel
theorem dX7_init_86 : decode cX7_init 86 = .ok (.sipush 3136, 3) := by decide +kernel
theorem dX7_init_89 : decode cX7_init 89 = .ok (.newarray .int, 2) := by decide +kernel
theorem dX7_init_91 : decode cX7_init 91 = .ok (.putfield 42, 3) := by decide +kernel
theorem dX7_init_94 : decode cX7_init 94 = .ok (.aload_n 0, 1) := by decide +kernel
theorem dX7_init_95 : decode cX7_init 95 = .ok (.sipush 784, 3) := by decide +kernel
theorem dX7_init_98 : decode cX7_init 98 = .ok (.newarray .int, 2) := by decide +kernel
theorem dX7_init_100 : decode cX7_init 100 = .ok (.putfield 45, 3) := by decide +kernel
theorem dX7_init_103 : decode cX7_init 103 = .ok (.aload_n 0, 1) := by decide +kernel
theorem dX7_init_104 : decode cX7_init 104 = .ok (.sipush 784, 3) := by decide +kernel
theorem dX7_init_107 : decode cX7_init 107 = .ok (.newarray .int, 2) := by decide +kernel
theorem dX7_init_109 : decode cX7_init 109 = .ok (.putfield 48, 3) := by decide +kernel
theorem dX7_init_112 : decode cX7_init 112 = .ok (.aload_n 0, 1) := by decide +kernel
theorem dX7_init_113 : decode cX7_init 113 = .ok (.sipush 784, 3) := by decide +kernel
theorem dX7_init_116 : decode cX7_init 116 = .ok (.newarray .int, 2) := by decide +kernel
theorem dX7_init_118 : decode cX7_init 118 = .ok (.putfield 51, 3) := by decide +kernel
theorem dX7_init_121 : decode cX7_init 121 = .ok (.aload_n 0, 1) := by decide +kernel
theorem dX7_init_122 : decode cX7_init 122 = .ok (.sipush 784, 3) := by decide +kernel
theorem dX7_init_125 : decode cX7_init 125 = .ok (.newarray .int, 2) := by decide +kernel
theorem dX7_init_127 : decode cX7_init 127 = .ok (.putfield 54, 3) := by decide +kernel
theorem dX7_init_130 : decode cX7_init 130 = .ok (.aload_n 0, 1) := by decide +kernel
theorem dX7_init_131 : decode cX7_init 131 = .ok (.sipush 3136, 3) := by decide +kernel
theorem dX7_init_134 : decode cX7_init 134 = .ok (.newarray .int, 2) := by decide +kernel
theorem dX7_init_136 : decode cX7_init 136 = .ok (.putfield 57, 3) := by decide +kernel
theorem dX7_init_139 : decode cX7_init 139 = .ok (.aload_n 0, 1) := by decide +kernel
theorem dX7_init_140 : decode cX7_init 140 = .ok (.sipush 3136, 3) := by decide +kernel
theorem dX7_init_143 : decode cX7_init 143 = .ok (.newarray .int, 2) := by decide +kernel
theorem dX7_init_145 : decode cX7_init 145 = .ok (.putfield 60, 3) := by decide +kernel
theorem dX7_init_148 : decode cX7_init 148 = .ok (.aload_n 0, 1) := by decide +kernel
theorem dX7_init_149 : decode cX7_init 149 = .ok (.sipush 3136, 3) := by decide +kernel
theorem dX7_init_152 : decode cX7_init 152 = .ok (.newarray .int, 2) := by decide +kernel
theorem dX7_init_154 : decode cX7_init 154 = .ok (.putfield 63, 3) := by decide +kernel
theorem dX7_init_157 : decode cX7_init 157 = .ok (.aload_n 0, 1) := by decide +kernel
theorem dX7_init_158 : decode cX7_init 158 = .ok (.sipush 3136, 3) := by decide +kernel
theorem dX7_init_161 : decode cX7_init 161 = .ok (.newarray .int, 2) := by decide +kernel
theorem dX7_init_163 : decode cX7_init 163 = .ok (.putfield 66, 3) := by decide +kernel
theorem dX7_init_166 : decode cX7_init 166 = .ok (.aload_n 0, 1) := by decide +kernel
theorem dX7_init_167 : decode cX7_init 167 = .ok (.bipush 16, 2) := by decide +kernel
theorem dX7_init_169 : decode cX7_init 169 = .ok (.newarray .boolean, 2) := by decide +kernel
theorem dX7_init_171 : decode cX7_init 171 = .ok (.putfield 69, 3) := by decide +kernel
theorem dX7_init_174 : decode cX7_init 174 = .ok (.aload_n 0, 1) := by decide +kernel
theorem dX7_init_175 : decode cX7_init 175 = .ok (.sipush 4000, 3) := by decide +kernel
theorem dX7_init_178 : decode cX7_init 178 = .ok (.newarray .boolean, 2) := by decide +kernel
theorem dX7_init_180 : decode cX7_init 180 = .ok (.putfield 72, 3) := by decide +kernel
theorem dX7_init_183 : decode cX7_init 183 = .ok (.aload_n 0, 1) := by decide +kernel
theorem dX7_init_184 : decode cX7_init 184 = .ok (.bipush 28, 2) := by decide +kernel
theorem dX7_init_186 : decode cX7_init 186 = .ok (.newarray .boolean, 2) := by decide +kernel
theorem dX7_init_188 : decode cX7_init 188 = .ok (.putfield 75, 3) := by decide +kernel
theorem dX7_init_191 : decode cX7_init 191 = .ok (.aload_n 0, 1) := by decide +kernel
theorem dX7_init_192 : decode cX7_init 192 = .ok (.sipush 3136, 3) := by decide +kernel
theorem dX7_init_195 : decode cX7_init 195 = .ok (.newarray .boolean, 2) := by decide +kernel
theorem dX7_init_197 : decode cX7_init 197 = .ok (.putfield 78, 3) := by decide +kernel
theorem dX7_init_200 : decode cX7_init 200 = .ok (.aload_n 0, 1) := by decide +kernel
theorem dX7_init_201 : decode cX7_init 201 = .ok (.sipush 784, 3) := by decide +kernel
theorem dX7_init_204 : decode cX7_init 204 = .ok (.newarray .boolean, 2) := by decide +kernel
theorem dX7_init_206 : decode cX7_init 206 = .ok (.putfield 81, 3) := by decide +kernel
theorem dX7_init_209 : decode cX7_init 209 = .ok (.aload_n 0, 1) := by decide +kernel
theorem dX7_init_210 : decode cX7_init 210 = .ok (.iconst 2, 1) := by decide +kernel
theorem dX7_init_211 : decode cX7_init 211 = .ok (.putfield 84, 3) := by decide +kernel
theorem dX7_init_214 : decode cX7_init 214 = .ok (.aload_n 0, 1) := by decide +kernel
theorem dX7_init_215 : decode cX7_init 215 = .ok (.getfield 7, 3) := by decide +kernel
theorem dX7_init_218 : decode cX7_init 218 = .ok (.iconst 1, 1) := by decide +kernel
theorem dX7_init_219 : decode cX7_init 219 = .ok (.iconst 1, 1) := by decide +kernel
theorem dX7_init_220 : decode cX7_init 220 = .ok (.iastore, 1) := by decide +kernel
theorem dX7_init_221 : decode cX7_init 221 = .ok (.aload_n 0, 1) := by decide +kernel
theorem dX7_init_222 : decode cX7_init 222 = .ok (.getfield 13, 3) := by decide +kernel
theorem dX7_init_225 : decode cX7_init 225 = .ok (.iconst 0, 1) := by decide +kernel
theorem dX7_init_226 : decode cX7_init 226 = .ok (.iconst (-1), 1) := by decide +kernel
theorem dX7_init_227 : decode cX7_init 227 = .ok (.iastore, 1) := by decide +kernel
theorem dX7_init_228 : decode cX7_init 228 = .ok (.aload_n 0, 1) := by decide +kernel
theorem dX7_init_229 : decode cX7_init 229 = .ok (.getfield 16, 3) := by decide +kernel
theorem dX7_init_232 : decode cX7_init 232 = .ok (.iconst 0, 1) := by decide +kernel
theorem dX7_init_233 : decode cX7_init 233 = .ok (.iconst (-1), 1) := by decide +kernel
theorem dX7_init_234 : decode cX7_init 234 = .ok (.iastore, 1) := by decide +kernel
theorem dX7_init_235 : decode cX7_init 235 = .ok (.aload_n 0, 1) := by decide +kernel
theorem dX7_init_236 : decode cX7_init 236 = .ok (.getfield 13, 3) := by decide +kernel
theorem dX7_init_239 : decode cX7_init 239 = .ok (.iconst 1, 1) := by decide +kernel
theorem dX7_init_240 : decode cX7_init 240 = .ok (.iconst (-1), 1) := by decide +kernel
theorem dX7_init_241 : decode cX7_init 241 = .ok (.iastore, 1) := by decide +kernel
theorem dX7_init_242 : decode cX7_init 242 = .ok (.aload_n 0, 1) := by decide +kernel
theorem dX7_init_243 : decode cX7_init 243 = .ok (.getfield 16, 3) := by decide +kernel
theorem dX7_init_246 : decode cX7_init 246 = .ok (.iconst 1, 1) := by decide +kernel
theorem dX7_init_247 : decode cX7_init 247 = .ok (.iconst (-1), 1) := by decide +kernel
theorem dX7_init_248 : decode cX7_init 248 = .ok (.iastore, 1) := by decide +kernel
theorem dX7_init_249 : decode cX7_init 249 = .ok (.return_, 1) := by decide +kernel
theorem dX7_in_0 : decode cX7_in 0 = .ok (.iload_n 0, 1) := by decide +kernel
theorem dX7_in_1 : decode cX7_in 1 = .ok (.iload_n 1, 1) := by decide +kernel
theorem dX7_in_2 : decode cX7_in 2 = .ok (.if_icmp .lt 12, 3) := by decide +kernel
theorem dX7_in_5 : decode cX7_in 5 = .ok (.iload_n 0, 1) := by decide +kernel
theorem dX7_in_6 : decode cX7_in 6 = .ok (.iload_n 2, 1) := by decide +kernel
theorem dX7_in_7 : decode cX7_in 7 = .ok (.if_icmp .gt 7, 3) := by decide +kernel
theorem dX7_in_10 : decode cX7_in 10 = .ok (.iconst 1, 1) := by decide +kernel
theorem dX7_in_11 : decode cX7_in 11 = .ok (.goto 4, 3) := by decide +kernel
theorem dX7_in_14 : decode cX7_in 14 = .ok (.iconst 0, 1) := by decide +kernel
theorem dX7_in_15 : decode cX7_in 15 = .ok (.ireturn, 1) := by decide +kernel
theorem dX7_isNotion_0 : decode cX7_isNotion 0 = .ok (.iload_n 1, 1) := by decide +kernel
theorem dX7_isNotion_1 : decode cX7_isNotion 1 = .ok (.iconst 0, 1) := by decide +kernel
theorem dX7_isNotion_2 : decode cX7_isNotion 2 = .ok (.aload_n 0, 1) := by decide +kernel
theorem dX7_isNotion_3 : decode cX7_isNotion 3 = .ok (.getfield 84, 3) := by decide +kernel
theorem dX7_isNotion_6 : decode cX7_isNotion 6 = .ok (.iconst 1, 1) := by decide +kernel
theorem dX7_isNotion_7 : decode cX7_isNotion 7 = .ok (.isub, 1) := by decide +kernel
theorem dX7_isNotion_8 : decode cX7_isNotion 8 = .ok (.invokestatic 88, 3) := by decide +kernel
theorem dX7_isNotion_11 : decode cX7_isNotion 11 = .ok (.ireturn, 1) := by decide +kernel
theorem dX7_isRole_0 : decode cX7_isRole 0 = .ok (.iload_n 0, 1) := by decide +kernel
theorem dX7_isRole_1 : decode cX7_isRole 1 = .ok (.iconst 0, 1) := by decide +kernel
theorem dX7_isRole_2 : decode cX7_isRole 2 = .ok (.iconst 3, 1) := by decide +kernel
theorem dX7_isRole_3 : decode cX7_isRole 3 = .ok (.invokestatic 88, 3) := by decide +kernel
theorem dX7_isRole_6 : decode cX7_isRole 6 = .ok (.ireturn, 1) := by decide +kernel
theorem dX7_found_0 : decode cX7_found 0 = .ok (.iconst 0, 1) := by decide +kernel
theorem dX7_found_1 : decode cX7_found 1 = .ok (.istore 4, 2) := by decide +kernel
theorem dX7_found_3 : decode cX7_found 3 = .ok (.iload 4, 2) := by decide +kernel
theorem dX7_found_5 : decode cX7_found 5 = .ok (.aload_n 0, 1) := by decide +kernel
theorem dX7_found_6 : decode cX7_found 6 = .ok (.getfield 84, 3) := by decide +kernel
theorem dX7_found_9 : decode cX7_found 9 = .ok (.if_icmp .ge 45, 3) := by decide +kernel
theorem dX7_found_12 : decode cX7_found 12 = .ok (.aload_n 0, 1) := by decide +kernel
theorem dX7_found_13 : decode cX7_found 13 = .ok (.getfield 7, 3) := by decide +kernel
theorem dX7_found_16 : decode cX7_found 16 = .ok (.iload 4, 2) := by decide +kernel
theorem dX7_found_18 : decode cX7_found 18 = .ok (.iaload, 1) := by decide +kernel
theorem dX7_found_19 : decode cX7_found 19 = .ok (.iload_n 1, 1) := by decide +kernel
theorem dX7_found_20 : decode cX7_found 20 = .ok (.if_icmp .ne 28, 3) := by decide +kernel
theorem dX7_found_23 : decode cX7_found 23 = .ok (.aload_n 0, 1) := by decide +kernel
theorem dX7_found_24 : decode cX7_found 24 = .ok (.getfield 13, 3) := by decide +kernel
theorem dX7_found_27 : decode cX7_found 27 = .ok (.iload 4, 2) := by decide +kernel
theorem dX7_found_29 : decode cX7_found 29 = .ok (.iaload, 1) := by decide +kernel
theorem dX7_found_30 : decode cX7_found 30 = .ok (.iload_n 2, 1) := by decide +kernel
theorem dX7_found_31 : decode cX7_found 31 = .ok (.if_icmp .ne 17, 3) := by decide +kernel
theorem dX7_found_34 : decode cX7_found 34 = .ok (.aload_n 0, 1) := by decide +kernel
theorem dX7_found_35 : decode cX7_found 35 = .ok (.getfield 16, 3) := by decide +kernel
theorem dX7_found_38 : decode cX7_found 38 = .ok (.iload 4, 2) := by decide +kernel
theorem dX7_found_40 : decode cX7_found 40 = .ok (.iaload, 1) := by decide +kernel
theorem dX7_found_41 : decode cX7_found 41 = .ok (.iload_n 3, 1) := by decide +kernel
theorem dX7_found_42 : decode cX7_found 42 = .ok (.if_icmp .ne 6, 3) := by decide +kernel
theorem dX7_found_45 : decode cX7_found 45 = .ok (.iload 4, 2) := by decide +kernel
theorem dX7_found_47 : decode cX7_found 47 = .ok (.ireturn, 1) := by decide +kernel
theorem dX7_found_48 : decode cX7_found 48 = .ok (.iinc 4 1, 3) := by decide +kernel
theorem dX7_found_51 : decode cX7_found 51 = .ok (.goto (-48), 3) := by decide +kernel
theorem dX7_found_54 : decode cX7_found 54 = .ok (.iconst (-1), 1) := by decide +kernel
theorem dX7_found_55 : decode cX7_found 55 = .ok (.ireturn, 1) := by decide +kernel
theorem dX7_made_0 : decode cX7_made 0 = .ok (.aload_n 0, 1) := by decide +kernel
theorem dX7_made_1 : decode cX7_made 1 = .ok (.getfield 7, 3) := by decide +kernel
theorem dX7_made_4 : decode cX7_made 4 = .ok (.aload_n 0, 1) := by decide +kernel
theorem dX7_made_5 : decode cX7_made 5 = .ok (.getfield 84, 3) := by decide +kernel
theorem dX7_made_8 : decode cX7_made 8 = .ok (.iload_n 1, 1) := by decide +kernel
theorem dX7_made_9 : decode cX7_made 9 = .ok (.iastore, 1) := by decide +kernel
theorem dX7_made_10 : decode cX7_made 10 = .ok (.aload_n 0, 1) := by decide +kernel
theorem dX7_made_11 : decode cX7_made 11 = .ok (.getfield 13, 3) := by decide +kernel
theorem dX7_made_14 : decode cX7_made 14 = .ok (.aload_n 0, 1) := by decide +kernel
theorem dX7_made_15 : decode cX7_made 15 = .ok (.getfield 84, 3) := by decide +kernel
theorem dX7_made_18 : decode cX7_made 18 = .ok (.iload_n 2, 1) := by decide +kernel
theorem dX7_made_19 : decode cX7_made 19 = .ok (.iastore, 1) := by decide +kernel
theorem dX7_made_20 : decode cX7_made 20 = .ok (.aload_n 0, 1) := by decide +kernel
theorem dX7_made_21 : decode cX7_made 21 = .ok (.getfield 16, 3) := by decide +kernel
theorem dX7_made_24 : decode cX7_made 24 = .ok (.aload_n 0, 1) := by decide +kernel
theorem dX7_made_25 : decode cX7_made 25 = .ok (.getfield 84, 3) := by decide +kernel
theorem dX7_made_28 : decode cX7_made 28 = .ok (.iload_n 3, 1) := by decide +kernel
theorem dX7_made_29 : decode cX7_made 29 = .ok (.iastore, 1) := by decide +kernel
theorem dX7_made_30 : decode cX7_made 30 = .ok (.aload_n 0, 1) := by decide +kernel
theorem dX7_made_31 : decode cX7_made 31 = .ok (.dup, 1) := by decide +kernel
theorem dX7_made_32 : decode cX7_made 32 = .ok (.getfield 84, 3) := by decide +kernel
theorem dX7_made_35 : decode cX7_made 35 = .ok (.iconst 1, 1) := by decide +kernel
theorem dX7_made_36 : decode cX7_made 36 = .ok (.iadd, 1) := by decide +kernel
theorem dX7_made_37 : decode cX7_made 37 = .ok (.putfield 84, 3) := by decide +kernel
theorem dX7_made_40 : decode cX7_made 40 = .ok (.aload_n 0, 1) := by decide +kernel
theorem dX7_made_41 : decode cX7_made 41 = .ok (.iconst 0, 1) := by decide +kernel
theorem dX7_made_42 : decode cX7_made 42 = .ok (.putfield 92, 3) := by decide +kernel
theorem dX7_made_45 : decode cX7_made 45 = .ok (.aload_n 0, 1) := by decide +kernel
theorem dX7_made_46 : decode cX7_made 46 = .ok (.getfield 84, 3) := by decide +kernel
theorem dX7_made_49 : decode cX7_made 49 = .ok (.iconst 1, 1) := by decide +kernel
theorem dX7_made_50 : decode cX7_made 50 = .ok (.isub, 1) := by decide +kernel
theorem dX7_made_51 : decode cX7_made 51 = .ok (.ireturn, 1) := by decide +kernel
theorem dX7_make_0 : decode cX7_make 0 = .ok (.aload_n 0, 1) := by decide +kernel
theorem dX7_make_1 : decode cX7_make 1 = .ok (.getfield 96, 3) := by decide +kernel
theorem dX7_make_4 : decode cX7_make 4 = .ok (.bipush 10, 2) := by decide +kernel
theorem dX7_make_6 : decode cX7_make 6 = .ok (.if_icmp .eq 12, 3) := by decide +kernel
theorem dX7_make_9 : decode cX7_make 9 = .ok (.aload_n 0, 1) := by decide +kernel
theorem dX7_make_10 : decode cX7_make 10 = .ok (.getfield 84, 3) := by decide +kernel
theorem dX7_make_13 : decode cX7_make 13 = .ok (.bipush 20, 2) := by decide +kernel
theorem dX7_make_15 : decode cX7_make 15 = .ok (.if_icmp .ne 6, 3) := by decide +kernel
theorem dX7_make_18 : decode cX7_make 18 = .ok (.bipush (-104), 2) := by decide +kernel
theorem dX7_make_20 : decode cX7_make 20 = .ok (.ireturn, 1) := by decide +kernel
theorem dX7_make_21 : decode cX7_make 21 = .ok (.aload_n 0, 1) := by decide +kernel
theorem dX7_make_22 : decode cX7_make 22 = .ok (.dup, 1) := by decide +kernel
theorem dX7_make_23 : decode cX7_make 23 = .ok (.getfield 96, 3) := by decide +kernel
theorem dX7_make_26 : decode cX7_make 26 = .ok (.iconst 1, 1) := by decide +kernel
theorem dX7_make_27 : decode cX7_make 27 = .ok (.iadd, 1) := by decide +kernel
theorem dX7_make_28 : decode cX7_make 28 = .ok (.putfield 96, 3) := by decide +kernel
theorem dX7_make_31 : decode cX7_make 31 = .ok (.aload_n 0, 1) := by decide +kernel
theorem dX7_make_32 : decode cX7_make 32 = .ok (.iconst 2, 1) := by decide +kernel
theorem dX7_make_33 : decode cX7_make 33 = .ok (.iconst (-1), 1) := by decide +kernel
theorem dX7_make_34 : decode cX7_make 34 = .ok (.iconst (-1), 1) := by decide +kernel
theorem dX7_make_35 : decode cX7_make 35 = .ok (.invokevirtual 99, 3) := by decide +kernel
theorem dX7_make_38 : decode cX7_make 38 = .ok (.ireturn, 1) := by decide +kernel
theorem dX7_meet_0 : decode cX7_meet 0 = .ok (.aload_n 0, 1) := by decide +kernel
theorem dX7_meet_1 : decode cX7_meet 1 = .ok (.iload_n 1, 1) := by decide +kernel
theorem dX7_meet_2 : decode cX7_meet 2 = .ok (.invokevirtual 103, 3) := by decide +kernel
theorem dX7_meet_5 : decode cX7_meet 5 = .ok (.ifCond .eq 11, 3) := by decide +kernel
theorem dX7_meet_8 : decode cX7_meet 8 = .ok (.aload_n 0, 1) := by decide +kernel
theorem dX7_meet_9 : decode cX7_meet 9 = .ok (.iload_n 2, 1) := by decide +kernel
theorem dX7_meet_10 : decode cX7_meet 10 = .ok (.invokevirtual 103, 3) := by decide +kernel
theorem dX7_meet_13 : decode cX7_meet 13 = .ok (.ifCond .ne 6, 3) := by decide +kernel
theorem dX7_meet_16 : decode cX7_meet 16 = .ok (.bipush (-101), 2) := by decide +kernel
theorem dX7_meet_18 : decode cX7_meet 18 = .ok (.ireturn, 1) := by decide +kernel
theorem dX7_meet_19 : decode cX7_meet 19 = .ok (.iload_n 1, 1) := by decide +kernel
theorem dX7_meet_20 : decode cX7_meet 20 = .ok (.iload_n 2, 1) := by decide +kernel
theorem dX7_meet_21 : decode cX7_meet 21 = .ok (.if_icmp .ne 5, 3) := by decide +kernel
theorem dX7_meet_24 : decode cX7_meet 24 = .ok (.iload_n 1, 1) := by decide +kernel
theorem dX7_meet_25 : decode cX7_meet 25 = .ok (.ireturn, 1) := by decide +kernel
theorem dX7_meet_26 : decode cX7_meet 26 = .ok (.iload_n 1, 1) := by decide +kernel
theorem dX7_meet_27 : decode cX7_meet 27 = .ok (.iload_n 2, 1) := by decide +kernel
theorem dX7_meet_28 : decode cX7_meet 28 = .ok (.if_icmp .ge 7, 3) := by decide +kernel
theorem dX7_meet_31 : decode cX7_meet 31 = .ok (.iload_n 1, 1) := by decide +kernel
theorem dX7_meet_32 : decode cX7_meet 32 = .ok (.goto 4, 3) := by decide +kernel
theorem dX7_meet_35 : decode cX7_meet 35 = .ok (.iload_n 2, 1) := by decide +kernel
theorem dX7_meet_36 : decode cX7_meet 36 = .ok (.istore_n 3, 1) := by decide +kernel
theorem dX7_meet_37 : decode cX7_meet 37 = .ok (.iload_n 1, 1) := by decide +kernel
theorem dX7_meet_38 : decode cX7_meet 38 = .ok (.iload_n 2, 1) := by decide +kernel
theorem dX7_meet_39 : decode cX7_meet 39 = .ok (.if_icmp .ge 7, 3) := by decide +kernel
theorem dX7_meet_42 : decode cX7_meet 42 = .ok (.iload_n 2, 1) := by decide +kernel
theorem dX7_meet_43 : decode cX7_meet 43 = .ok (.goto 4, 3) := by decide +kernel
theorem dX7_meet_46 : decode cX7_meet 46 = .ok (.iload_n 1, 1) := by decide +kernel
theorem dX7_meet_47 : decode cX7_meet 47 = .ok (.istore 4, 2) := by decide +kernel
theorem dX7_meet_49 : decode cX7_meet 49 = .ok (.aload_n 0, 1) := by decide +kernel
theorem dX7_meet_50 : decode cX7_meet 50 = .ok (.iconst 3, 1) := by decide +kernel
theorem dX7_meet_51 : decode cX7_meet 51 = .ok (.iload_n 3, 1) := by decide +kernel
theorem dX7_meet_52 : decode cX7_meet 52 = .ok (.iload 4, 2) := by decide +kernel
theorem dX7_meet_54 : decode cX7_meet 54 = .ok (.invokevirtual 107, 3) := by decide +kernel
theorem dX7_meet_57 : decode cX7_meet 57 = .ok (.istore 5, 2) := by decide +kernel
theorem dX7_meet_59 : decode cX7_meet 59 = .ok (.iload 5, 2) := by decide +kernel
theorem dX7_meet_61 : decode cX7_meet 61 = .ok (.iconst (-1), 1) := by decide +kernel
theorem dX7_meet_62 : decode cX7_meet 62 = .ok (.if_icmp .eq 8, 3) := by decide +kernel
theorem dX7_meet_65 : decode cX7_meet 65 = .ok (.iload 5, 2) := by decide +kernel
theorem dX7_meet_67 : decode cX7_meet 67 = .ok (.goto 25, 3) := by decide +kernel
theorem dX7_meet_70 : decode cX7_meet 70 = .ok (.aload_n 0, 1) := by decide +kernel
theorem dX7_meet_71 : decode cX7_meet 71 = .ok (.getfield 84, 3) := by decide +kernel
theorem dX7_meet_74 : decode cX7_meet 74 = .ok (.bipush 20, 2) := by decide +kernel
theorem dX7_meet_76 : decode cX7_meet 76 = .ok (.if_icmp .ne 8, 3) := by decide +kernel
theorem dX7_meet_79 : decode cX7_meet 79 = .ok (.bipush (-104), 2) := by decide +kernel
theorem dX7_meet_81 : decode cX7_meet 81 = .ok (.goto 11, 3) := by decide +kernel
theorem dX7_meet_84 : decode cX7_meet 84 = .ok (.aload_n 0, 1) := by decide +kernel
theorem dX7_meet_85 : decode cX7_meet 85 = .ok (.iconst 3, 1) := by decide +kernel
theorem dX7_meet_86 : decode cX7_meet 86 = .ok (.iload_n 3, 1) := by decide +kernel
theorem dX7_meet_87 : decode cX7_meet 87 = .ok (.iload 4, 2) := by decide +kernel
theorem dX7_meet_89 : decode cX7_meet 89 = .ok (.invokevirtual 99, 3) := by decide +kernel
theorem dX7_meet_92 : decode cX7_meet 92 = .ok (.ireturn, 1) := by decide +kernel
theorem dX7_has_0 : decode cX7_has 0 = .ok (.aload_n 0, 1) := by decide +kernel
theorem dX7_has_1 : decode cX7_has 1 = .ok (.iload_n 2, 1) := by decide +kernel
theorem dX7_has_2 : decode cX7_has 2 = .ok (.invokevirtual 103, 3) := by decide +kernel
theorem dX7_has_5 : decode cX7_has 5 = .ok (.ifCond .ne 6, 3) := by decide +kernel
theorem dX7_has_8 : decode cX7_has 8 = .ok (.bipush (-101), 2) := by decide +kernel
theorem dX7_has_10 : decode cX7_has 10 = .ok (.ireturn, 1) := by decide +kernel
theorem dX7_has_11 : decode cX7_has 11 = .ok (.iload_n 1, 1) := by decide +kernel
theorem dX7_has_12 : decode cX7_has 12 = .ok (.invokestatic 110, 3) := by decide +kernel
theorem dX7_has_15 : decode cX7_has 15 = .ok (.ifCond .ne 6, 3) := by decide +kernel
theorem dX7_has_18 : decode cX7_has 18 = .ok (.bipush (-102), 2) := by decide +kernel
theorem dX7_has_20 : decode cX7_has 20 = .ok (.ireturn, 1) := by decide +kernel
theorem dX7_has_21 : decode cX7_has 21 = .ok (.aload_n 0, 1) := by decide +kernel
theorem dX7_has_22 : decode cX7_has 22 = .ok (.iconst 4, 1) := by decide +kernel
theorem dX7_has_23 : decode cX7_has 23 = .ok (.iload_n 1, 1) := by decide +kernel
theorem dX7_has_24 : decode cX7_has 24 = .ok (.iload_n 2, 1) := by decide +kernel
theorem dX7_has_25 : decode cX7_has 25 = .ok (.invokevirtual 107, 3) := by decide +kernel
theorem dX7_has_28 : decode cX7_has 28 = .ok (.istore_n 3, 1) := by decide +kernel
theorem dX7_has_29 : decode cX7_has 29 = .ok (.iload_n 3, 1) := by decide +kernel
theorem dX7_has_30 : decode cX7_has 30 = .ok (.iconst (-1), 1) := by decide +kernel
theorem dX7_has_31 : decode cX7_has 31 = .ok (.if_icmp .eq 7, 3) := by decide +kernel
theorem dX7_has_34 : decode cX7_has 34 = .ok (.iload_n 3, 1) := by decide +kernel
theorem dX7_has_35 : decode cX7_has 35 = .ok (.goto 24, 3) := by decide +kernel
theorem dX7_has_38 : decode cX7_has 38 = .ok (.aload_n 0, 1) := by decide +kernel
theorem dX7_has_39 : decode cX7_has 39 = .ok (.getfield 84, 3) := by decide +kernel
theorem dX7_has_42 : decode cX7_has 42 = .ok (.bipush 20, 2) := by decide +kernel
theorem dX7_has_44 : decode cX7_has 44 = .ok (.if_icmp .ne 8, 3) := by decide +kernel
theorem dX7_has_47 : decode cX7_has 47 = .ok (.bipush (-104), 2) := by decide +kernel
theorem dX7_has_49 : decode cX7_has 49 = .ok (.goto 10, 3) := by decide +kernel
theorem dX7_has_52 : decode cX7_has 52 = .ok (.aload_n 0, 1) := by decide +kernel
theorem dX7_has_53 : decode cX7_has 53 = .ok (.iconst 4, 1) := by decide +kernel
theorem dX7_has_54 : decode cX7_has 54 = .ok (.iload_n 1, 1) := by decide +kernel
theorem dX7_has_55 : decode cX7_has 55 = .ok (.iload_n 2, 1) := by decide +kernel
theorem dX7_has_56 : decode cX7_has 56 = .ok (.invokevirtual 99, 3) := by decide +kernel
theorem dX7_has_59 : decode cX7_has 59 = .ok (.ireturn, 1) := by decide +kernel
theorem dX7_said_0 : decode cX7_said 0 = .ok (.aload_n 0, 1) := by decide +kernel
theorem dX7_said_1 : decode cX7_said 1 = .ok (.getfield 113, 3) := by decide +kernel
theorem dX7_said_4 : decode cX7_said 4 = .ok (.bipush 40, 2) := by decide +kernel
theorem dX7_said_6 : decode cX7_said 6 = .ok (.if_icmp .ne 6, 3) := by decide +kernel
theorem dX7_said_9 : decode cX7_said 9 = .ok (.bipush (-104), 2) := by decide +kernel
theorem dX7_said_11 : decode cX7_said 11 = .ok (.ireturn, 1) := by decide +kernel
theorem dX7_said_12 : decode cX7_said 12 = .ok (.aload_n 0, 1) := by decide +kernel
theorem dX7_said_13 : decode cX7_said 13 = .ok (.getfield 19, 3) := by decide +kernel
theorem dX7_said_16 : decode cX7_said 16 = .ok (.aload_n 0, 1) := by decide +kernel
theorem dX7_said_17 : decode cX7_said 17 = .ok (.getfield 113, 3) := by decide +kernel
theorem dX7_said_20 : decode cX7_said 20 = .ok (.iload_n 1, 1) := by decide +kernel
theorem dX7_said_21 : decode cX7_said 21 = .ok (.iastore, 1) := by decide +kernel
theorem dX7_said_22 : decode cX7_said 22 = .ok (.aload_n 0, 1) := by decide +kernel
theorem dX7_said_23 : decode cX7_said 23 = .ok (.getfield 22, 3) := by decide +kernel
theorem dX7_said_26 : decode cX7_said 26 = .ok (.aload_n 0, 1) := by decide +kernel
theorem dX7_said_27 : decode cX7_said 27 = .ok (.getfield 113, 3) := by decide +kernel
theorem dX7_said_30 : decode cX7_said 30 = .ok (.iload_n 2, 1) := by decide +kernel
theorem dX7_said_31 : decode cX7_said 31 = .ok (.iastore, 1) := by decide +kernel
theorem dX7_said_32 : decode cX7_said 32 = .ok (.aload_n 0, 1) := by decide +kernel
theorem dX7_said_33 : decode cX7_said 33 = .ok (.getfield 25, 3) := by decide +kernel
theorem dX7_said_36 : decode cX7_said 36 = .ok (.aload_n 0, 1) := by decide +kernel
theorem dX7_said_37 : decode cX7_said 37 = .ok (.getfield 113, 3) := by decide +kernel
theorem dX7_said_40 : decode cX7_said 40 = .ok (.iload_n 3, 1) := by decide +kernel
theorem dX7_said_41 : decode cX7_said 41 = .ok (.iastore, 1) := by decide +kernel
theorem dX7_said_42 : decode cX7_said 42 = .ok (.aload_n 0, 1) := by decide +kernel
theorem dX7_said_43 : decode cX7_said 43 = .ok (.getfield 28, 3) := by decide +kernel
theorem dX7_said_46 : decode cX7_said 46 = .ok (.aload_n 0, 1) := by decide +kernel
theorem dX7_said_47 : decode cX7_said 47 = .ok (.getfield 113, 3) := by decide +kernel
theorem dX7_said_50 : decode cX7_said 50 = .ok (.iload 4, 2) := by decide +kernel
theorem dX7_said_52 : decode cX7_said 52 = .ok (.iastore, 1) := by decide +kernel
theorem dX7_said_53 : decode cX7_said 53 = .ok (.aload_n 0, 1) := by decide +kernel
theorem dX7_said_54 : decode cX7_said 54 = .ok (.getfield 31, 3) := by decide +kernel
theorem dX7_said_57 : decode cX7_said 57 = .ok (.aload_n 0, 1) := by decide +kernel
theorem dX7_said_58 : decode cX7_said 58 = .ok (.getfield 113, 3) := by decide +kernel
theorem dX7_said_61 : decode cX7_said 61 = .ok (.iconst 1, 1) := by decide +kernel
theorem dX7_said_62 : decode cX7_said 62 = .ok (.bastore, 1) := by decide +kernel
theorem dX7_said_63 : decode cX7_said 63 = .ok (.aload_n 0, 1) := by decide +kernel
theorem dX7_said_64 : decode cX7_said 64 = .ok (.dup, 1) := by decide +kernel
theorem dX7_said_65 : decode cX7_said 65 = .ok (.getfield 113, 3) := by decide +kernel
theorem dX7_said_68 : decode cX7_said 68 = .ok (.iconst 1, 1) := by decide +kernel
theorem dX7_said_69 : decode cX7_said 69 = .ok (.iadd, 1) := by decide +kernel
theorem dX7_said_70 : decode cX7_said 70 = .ok (.putfield 113, 3) := by decide +kernel
theorem dX7_said_73 : decode cX7_said 73 = .ok (.aload_n 0, 1) := by decide +kernel
theorem dX7_said_74 : decode cX7_said 74 = .ok (.iconst 0, 1) := by decide +kernel
theorem dX7_said_75 : decode cX7_said 75 = .ok (.putfield 92, 3) := by decide +kernel
theorem dX7_said_78 : decode cX7_said 78 = .ok (.aload_n 0, 1) := by decide +kernel
theorem dX7_said_79 : decode cX7_said 79 = .ok (.getfield 113, 3) := by decide +kernel
theorem dX7_said_82 : decode cX7_said 82 = .ok (.iconst 1, 1) := by decide +kernel
theorem dX7_said_83 : decode cX7_said 83 = .ok (.isub, 1) := by decide +kernel
theorem dX7_said_84 : decode cX7_said 84 = .ok (.ireturn, 1) := by decide +kernel
theorem dX7_say_0 : decode cX7_say 0 = .ok (.aload_n 0, 1) := by decide +kernel
theorem dX7_say_1 : decode cX7_say 1 = .ok (.iload_n 1, 1) := by decide +kernel
theorem dX7_say_2 : decode cX7_say 2 = .ok (.invokevirtual 103, 3) := by decide +kernel
theorem dX7_say_5 : decode cX7_say 5 = .ok (.ifCond .eq 11, 3) := by decide +kernel
theorem dX7_say_8 : decode cX7_say 8 = .ok (.aload_n 0, 1) := by decide +kernel
theorem dX7_say_9 : decode cX7_say 9 = .ok (.iload_n 2, 1) := by decide +kernel
theorem dX7_say_10 : decode cX7_say 10 = .ok (.invokevirtual 103, 3) := by decide +kernel
theorem dX7_say_13 : decode cX7_say 13 = .ok (.ifCond .ne 8, 3) := by decide +kernel
theorem dX7_say_16 : decode cX7_say 16 = .ok (.bipush (-101), 2) := by decide +kernel
theorem dX7_say_18 : decode cX7_say 18 = .ok (.goto 11, 3) := by decide +kernel
theorem dX7_say_21 : decode cX7_say 21 = .ok (.aload_n 0, 1) := by decide +kernel
theorem dX7_say_22 : decode cX7_say 22 = .ok (.iconst 0, 1) := by decide +kernel
theorem dX7_say_23 : decode cX7_say 23 = .ok (.iload_n 1, 1) := by decide +kernel
theorem dX7_say_24 : decode cX7_say 24 = .ok (.iload_n 2, 1) := by decide +kernel
theorem dX7_say_25 : decode cX7_say 25 = .ok (.iconst (-1), 1) := by decide +kernel
theorem dX7_say_26 : decode cX7_say 26 = .ok (.invokevirtual 116, 3) := by decide +kernel
theorem dX7_say_29 : decode cX7_say 29 = .ok (.ireturn, 1) := by decide +kernel
theorem dX7_role_0 : decode cX7_role 0 = .ok (.iload_n 1, 1) := by decide +kernel
theorem dX7_role_1 : decode cX7_role 1 = .ok (.invokestatic 110, 3) := by decide +kernel
theorem dX7_role_4 : decode cX7_role 4 = .ok (.ifCond .eq 10, 3) := by decide +kernel
theorem dX7_role_7 : decode cX7_role 7 = .ok (.iload_n 2, 1) := by decide +kernel
theorem dX7_role_8 : decode cX7_role 8 = .ok (.invokestatic 110, 3) := by decide +kernel
theorem dX7_role_11 : decode cX7_role 11 = .ok (.ifCond .ne 8, 3) := by decide +kernel
theorem dX7_role_14 : decode cX7_role 14 = .ok (.bipush (-102), 2) := by decide +kernel
theorem dX7_role_16 : decode cX7_role 16 = .ok (.goto 11, 3) := by decide +kernel
theorem dX7_role_19 : decode cX7_role 19 = .ok (.aload_n 0, 1) := by decide +kernel
theorem dX7_role_20 : decode cX7_role 20 = .ok (.iconst 1, 1) := by decide +kernel
theorem dX7_role_21 : decode cX7_role 21 = .ok (.iload_n 1, 1) := by decide +kernel
theorem dX7_role_22 : decode cX7_role 22 = .ok (.iload_n 2, 1) := by decide +kernel
theorem dX7_role_23 : decode cX7_role 23 = .ok (.iconst (-1), 1) := by decide +kernel
theorem dX7_role_24 : decode cX7_role 24 = .ok (.invokevirtual 116, 3) := by decide +kernel
theorem dX7_role_27 : decode cX7_role 27 = .ok (.ireturn, 1) := by decide +kernel
theorem dX7_chain_0 : decode cX7_chain 0 = .ok (.iload_n 1, 1) := by decide +kernel
theorem dX7_chain_1 : decode cX7_chain 1 = .ok (.invokestatic 110, 3) := by decide +kernel
theorem dX7_chain_4 : decode cX7_chain 4 = .ok (.ifCond .eq 17, 3) := by decide +kernel
theorem dX7_chain_7 : decode cX7_chain 7 = .ok (.iload_n 2, 1) := by decide +kernel
theorem dX7_chain_8 : decode cX7_chain 8 = .ok (.invokestatic 110, 3) := by decide +kernel
theorem dX7_chain_11 : decode cX7_chain 11 = .ok (.ifCond .eq 10, 3) := by decide +kernel
theorem dX7_chain_14 : decode cX7_chain 14 = .ok (.iload_n 3, 1) := by decide +kernel
theorem dX7_chain_15 : decode cX7_chain 15 = .ok (.invokestatic 110, 3) := by decide +kernel
theorem dX7_chain_18 : decode cX7_chain 18 = .ok (.ifCond .ne 8, 3) := by decide +kernel
theorem dX7_chain_21 : decode cX7_chain 21 = .ok (.bipush (-102), 2) := by decide +kernel
theorem dX7_chain_23 : decode cX7_chain 23 = .ok (.goto 11, 3) := by decide +kernel
theorem dX7_chain_26 : decode cX7_chain 26 = .ok (.aload_n 0, 1) := by decide +kernel
theorem dX7_chain_27 : decode cX7_chain 27 = .ok (.iconst 2, 1) := by decide +kernel
theorem dX7_chain_28 : decode cX7_chain 28 = .ok (.iload_n 1, 1) := by decide +kernel
theorem dX7_chain_29 : decode cX7_chain 29 = .ok (.iload_n 2, 1) := by decide +kernel
theorem dX7_chain_30 : decode cX7_chain 30 = .ok (.iload_n 3, 1) := by decide +kernel
theorem dX7_chain_31 : decode cX7_chain 31 = .ok (.invokevirtual 116, 3) := by decide +kernel
theorem dX7_chain_34 : decode cX7_chain 34 = .ok (.ireturn, 1) := by decide +kernel
theorem dX7_unsay_0 : decode cX7_unsay 0 = .ok (.iload_n 1, 1) := by decide +kernel
theorem dX7_unsay_1 : decode cX7_unsay 1 = .ok (.iconst 0, 1) := by decide +kernel
theorem dX7_unsay_2 : decode cX7_unsay 2 = .ok (.aload_n 0, 1) := by decide +kernel
theorem dX7_unsay_3 : decode cX7_unsay 3 = .ok (.getfield 113, 3) := by decide +kernel
theorem dX7_unsay_6 : decode cX7_unsay 6 = .ok (.iconst 1, 1) := by decide +kernel
theorem dX7_unsay_7 : decode cX7_unsay 7 = .ok (.isub, 1) := by decide +kernel
theorem dX7_unsay_8 : decode cX7_unsay 8 = .ok (.invokestatic 88, 3) := by decide +kernel
theorem dX7_unsay_11 : decode cX7_unsay 11 = .ok (.ifCond .eq 12, 3) := by decide +kernel
theorem dX7_unsay_14 : decode cX7_unsay 14 = .ok (.aload_n 0, 1) := by decide +kernel
theorem dX7_unsay_15 : decode cX7_unsay 15 = .ok (.getfield 31, 3) := by decide +kernel
theorem dX7_unsay_18 : decode cX7_unsay 18 = .ok (.iload_n 1, 1) := by decide +kernel
theorem dX7_unsay_19 : decode cX7_unsay 19 = .ok (.baload, 1) := by decide +kernel
theorem dX7_unsay_20 : decode cX7_unsay 20 = .ok (.ifCond .ne 6, 3) := by decide +kernel
theorem dX7_unsay_23 : decode cX7_unsay 23 = .ok (.bipush (-101), 2) := by decide +kernel
theorem dX7_unsay_25 : decode cX7_unsay 25 = .ok (.ireturn, 1) := by decide +kernel
theorem dX7_unsay_26 : decode cX7_unsay 26 = .ok (.aload_n 0, 1) := by decide +kernel
theorem dX7_unsay_27 : decode cX7_unsay 27 = .ok (.getfield 31, 3) := by decide +kernel
theorem dX7_unsay_30 : decode cX7_unsay 30 = .ok (.iload_n 1, 1) := by decide +kernel
theorem dX7_unsay_31 : decode cX7_unsay 31 = .ok (.iconst 0, 1) := by decide +kernel
theorem dX7_unsay_32 : decode cX7_unsay 32 = .ok (.bastore, 1) := by decide +kernel
theorem dX7_unsay_33 : decode cX7_unsay 33 = .ok (.aload_n 0, 1) := by decide +kernel
theorem dX7_unsay_34 : decode cX7_unsay 34 = .ok (.iconst 0, 1) := by decide +kernel
theorem dX7_unsay_35 : decode cX7_unsay 35 = .ok (.putfield 92, 3) := by decide +kernel
theorem dX7_unsay_38 : decode cX7_unsay 38 = .ok (.iconst 1, 1) := by decide +kernel
theorem dX7_unsay_39 : decode cX7_unsay 39 = .ok (.ireturn, 1) := by decide +kernel
theorem dX7_notion_0 : decode cX7_notion 0 = .ok (.aload_n 0, 1) := by decide +kernel
theorem dX7_notion_1 : decode cX7_notion 1 = .ok (.iload_n 1, 1) := by decide +kernel
theorem dX7_notion_2 : decode cX7_notion 2 = .ok (.invokevirtual 103, 3) := by decide +kernel
theorem dX7_notion_5 : decode cX7_notion 5 = .ok (.ifCond .ne 6, 3) := by decide +kernel
theorem dX7_notion_8 : decode cX7_notion 8 = .ok (.bipush (-101), 2) := by decide +kernel
theorem dX7_notion_10 : decode cX7_notion 10 = .ok (.ireturn, 1) := by decide +kernel
theorem dX7_notion_11 : decode cX7_notion 11 = .ok (.iload_n 2, 1) := by decide +kernel
theorem dX7_notion_12 : decode cX7_notion 12 = .ok (.ifCond .ne 12, 3) := by decide +kernel
theorem dX7_notion_15 : decode cX7_notion 15 = .ok (.aload_n 0, 1) := by decide +kernel
theorem dX7_notion_16 : decode cX7_notion 16 = .ok (.getfield 7, 3) := by decide +kernel
theorem dX7_notion_19 : decode cX7_notion 19 = .ok (.iload_n 1, 1) := by decide +kernel
theorem dX7_notion_20 : decode cX7_notion 20 = .ok (.iaload, 1) := by decide +kernel
theorem dX7_notion_21 : decode cX7_notion 21 = .ok (.goto 33, 3) := by decide +kernel
theorem dX7_notion_24 : decode cX7_notion 24 = .ok (.iload_n 2, 1) := by decide +kernel
theorem dX7_notion_25 : decode cX7_notion 25 = .ok (.iconst 1, 1) := by decide +kernel
theorem dX7_notion_26 : decode cX7_notion 26 = .ok (.if_icmp .ne 12, 3) := by decide +kernel
theorem dX7_notion_29 : decode cX7_notion 29 = .ok (.aload_n 0, 1) := by decide +kernel
