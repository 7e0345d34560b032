theorem dX7_notion_30 : decode cX7_notion 30 = .ok (.getfield 13, 3) := by decide +kernel
theorem dX7_notion_33 : decode cX7_notion 33 = .ok (.iload_n 1, 1) := by decide +kernel
theorem dX7_notion_34 : decode cX7_notion 34 = .ok (.iaload, 1) := by decide +kernel
theorem dX7_notion_35 : decode cX7_notion 35 = .ok (.goto 19, 3) := by decide +kernel
theorem dX7_notion_38 : decode cX7_notion 38 = .ok (.iload_n 2, 1) := by decide +kernel
theorem dX7_notion_39 : decode cX7_notion 39 = .ok (.iconst 2, 1) := by decide +kernel
theorem dX7_notion_40 : decode cX7_notion 40 = .ok (.if_icmp .ne 12, 3) := by decide +kernel
theorem dX7_notion_43 : decode cX7_notion 43 = .ok (.aload_n 0, 1) := by decide +kernel
theorem dX7_notion_44 : decode cX7_notion 44 = .ok (.getfield 16, 3) := by decide +kernel
theorem dX7_notion_47 : decode cX7_notion 47 = .ok (.iload_n 1, 1) := by decide +kernel
theorem dX7_notion_48 : decode cX7_notion 48 = .ok (.iaload, 1) := by decide +kernel
theorem dX7_notion_49 : decode cX7_notion 49 = .ok (.goto 5, 3) := by decide +kernel
theorem dX7_notion_52 : decode cX7_notion 52 = .ok (.bipush (-102), 2) := by decide +kernel
theorem dX7_notion_54 : decode cX7_notion 54 = .ok (.ireturn, 1) := by decide +kernel
theorem dX7_axiom_0 : decode cX7_axiom 0 = .ok (.iload_n 1, 1) := by decide +kernel
theorem dX7_axiom_1 : decode cX7_axiom 1 = .ok (.iconst 0, 1) := by decide +kernel
theorem dX7_axiom_2 : decode cX7_axiom 2 = .ok (.aload_n 0, 1) := by decide +kernel
theorem dX7_axiom_3 : decode cX7_axiom 3 = .ok (.getfield 113, 3) := by decide +kernel
theorem dX7_axiom_6 : decode cX7_axiom 6 = .ok (.iconst 1, 1) := by decide +kernel
theorem dX7_axiom_7 : decode cX7_axiom 7 = .ok (.isub, 1) := by decide +kernel
theorem dX7_axiom_8 : decode cX7_axiom 8 = .ok (.invokestatic 88, 3) := by decide +kernel
theorem dX7_axiom_11 : decode cX7_axiom 11 = .ok (.ifCond .ne 6, 3) := by decide +kernel
theorem dX7_axiom_14 : decode cX7_axiom 14 = .ok (.bipush (-101), 2) := by decide +kernel
theorem dX7_axiom_16 : decode cX7_axiom 16 = .ok (.ireturn, 1) := by decide +kernel
theorem dX7_axiom_17 : decode cX7_axiom 17 = .ok (.iload_n 2, 1) := by decide +kernel
theorem dX7_axiom_18 : decode cX7_axiom 18 = .ok (.tableswitch 77 0 4 #[34, 41, 48, 55, 62], 34) := by decide +kernel
theorem dX7_axiom_52 : decode cX7_axiom 52 = .ok (.aload_n 0, 1) := by decide +kernel
theorem dX7_axiom_53 : decode cX7_axiom 53 = .ok (.getfield 19, 3) := by decide +kernel
theorem dX7_axiom_56 : decode cX7_axiom 56 = .ok (.iload_n 1, 1) := by decide +kernel
theorem dX7_axiom_57 : decode cX7_axiom 57 = .ok (.iaload, 1) := by decide +kernel
theorem dX7_axiom_58 : decode cX7_axiom 58 = .ok (.ireturn, 1) := by decide +kernel
theorem dX7_axiom_59 : decode cX7_axiom 59 = .ok (.aload_n 0, 1) := by decide +kernel
theorem dX7_axiom_60 : decode cX7_axiom 60 = .ok (.getfield 22, 3) := by decide +kernel
theorem dX7_axiom_63 : decode cX7_axiom 63 = .ok (.iload_n 1, 1) := by decide +kernel
theorem dX7_axiom_64 : decode cX7_axiom 64 = .ok (.iaload, 1) := by decide +kernel
theorem dX7_axiom_65 : decode cX7_axiom 65 = .ok (.ireturn, 1) := by decide +kernel
theorem dX7_axiom_66 : decode cX7_axiom 66 = .ok (.aload_n 0, 1) := by decide +kernel
theorem dX7_axiom_67 : decode cX7_axiom 67 = .ok (.getfield 25, 3) := by decide +kernel
theorem dX7_axiom_70 : decode cX7_axiom 70 = .ok (.iload_n 1, 1) := by decide +kernel
theorem dX7_axiom_71 : decode cX7_axiom 71 = .ok (.iaload, 1) := by decide +kernel
theorem dX7_axiom_72 : decode cX7_axiom 72 = .ok (.ireturn, 1) := by decide +kernel
theorem dX7_axiom_73 : decode cX7_axiom 73 = .ok (.aload_n 0, 1) := by decide +kernel
theorem dX7_axiom_74 : decode cX7_axiom 74 = .ok (.getfield 28, 3) := by decide +kernel
theorem dX7_axiom_77 : decode cX7_axiom 77 = .ok (.iload_n 1, 1) := by decide +kernel
theorem dX7_axiom_78 : decode cX7_axiom 78 = .ok (.iaload, 1) := by decide +kernel
theorem dX7_axiom_79 : decode cX7_axiom 79 = .ok (.ireturn, 1) := by decide +kernel
theorem dX7_axiom_80 : decode cX7_axiom 80 = .ok (.aload_n 0, 1) := by decide +kernel
theorem dX7_axiom_81 : decode cX7_axiom 81 = .ok (.getfield 31, 3) := by decide +kernel
theorem dX7_axiom_84 : decode cX7_axiom 84 = .ok (.iload_n 1, 1) := by decide +kernel
theorem dX7_axiom_85 : decode cX7_axiom 85 = .ok (.baload, 1) := by decide +kernel
theorem dX7_axiom_86 : decode cX7_axiom 86 = .ok (.ifCond .eq 7, 3) := by decide +kernel
theorem dX7_axiom_89 : decode cX7_axiom 89 = .ok (.iconst 1, 1) := by decide +kernel
theorem dX7_axiom_90 : decode cX7_axiom 90 = .ok (.goto 4, 3) := by decide +kernel
theorem dX7_axiom_93 : decode cX7_axiom 93 = .ok (.iconst 0, 1) := by decide +kernel
theorem dX7_axiom_94 : decode cX7_axiom 94 = .ok (.ireturn, 1) := by decide +kernel
theorem dX7_axiom_95 : decode cX7_axiom 95 = .ok (.bipush (-102), 2) := by decide +kernel
theorem dX7_axiom_97 : decode cX7_axiom 97 = .ok (.ireturn, 1) := by decide +kernel
theorem dX7_closeRoles_0 : decode cX7_closeRoles 0 = .ok (.iconst 0, 1) := by decide +kernel
theorem dX7_closeRoles_1 : decode cX7_closeRoles 1 = .ok (.istore_n 1, 1) := by decide +kernel
theorem dX7_closeRoles_2 : decode cX7_closeRoles 2 = .ok (.iload_n 1, 1) := by decide +kernel
theorem dX7_closeRoles_3 : decode cX7_closeRoles 3 = .ok (.bipush 16, 2) := by decide +kernel
theorem dX7_closeRoles_5 : decode cX7_closeRoles 5 = .ok (.if_icmp .ge 29, 3) := by decide +kernel
theorem dX7_closeRoles_8 : decode cX7_closeRoles 8 = .ok (.aload_n 0, 1) := by decide +kernel
theorem dX7_closeRoles_9 : decode cX7_closeRoles 9 = .ok (.getfield 69, 3) := by decide +kernel
theorem dX7_closeRoles_12 : decode cX7_closeRoles 12 = .ok (.iload_n 1, 1) := by decide +kernel
theorem dX7_closeRoles_13 : decode cX7_closeRoles 13 = .ok (.iload_n 1, 1) := by decide +kernel
theorem dX7_closeRoles_14 : decode cX7_closeRoles 14 = .ok (.iconst 4, 1) := by decide +kernel
theorem dX7_closeRoles_15 : decode cX7_closeRoles 15 = .ok (.idiv, 1) := by decide +kernel
theorem dX7_closeRoles_16 : decode cX7_closeRoles 16 = .ok (.iload_n 1, 1) := by decide +kernel
theorem dX7_closeRoles_17 : decode cX7_closeRoles 17 = .ok (.iconst 4, 1) := by decide +kernel
theorem dX7_closeRoles_18 : decode cX7_closeRoles 18 = .ok (.irem, 1) := by decide +kernel
theorem dX7_closeRoles_19 : decode cX7_closeRoles 19 = .ok (.if_icmp .ne 7, 3) := by decide +kernel
theorem dX7_closeRoles_22 : decode cX7_closeRoles 22 = .ok (.iconst 1, 1) := by decide +kernel
theorem dX7_closeRoles_23 : decode cX7_closeRoles 23 = .ok (.goto 4, 3) := by decide +kernel
theorem dX7_closeRoles_26 : decode cX7_closeRoles 26 = .ok (.iconst 0, 1) := by decide +kernel
theorem dX7_closeRoles_27 : decode cX7_closeRoles 27 = .ok (.bastore, 1) := by decide +kernel
theorem dX7_closeRoles_28 : decode cX7_closeRoles 28 = .ok (.iinc 1 1, 3) := by decide +kernel
theorem dX7_closeRoles_31 : decode cX7_closeRoles 31 = .ok (.goto (-29), 3) := by decide +kernel
theorem dX7_closeRoles_34 : decode cX7_closeRoles 34 = .ok (.iconst 0, 1) := by decide +kernel
theorem dX7_closeRoles_35 : decode cX7_closeRoles 35 = .ok (.istore_n 1, 1) := by decide +kernel
theorem dX7_closeRoles_36 : decode cX7_closeRoles 36 = .ok (.iload_n 1, 1) := by decide +kernel
theorem dX7_closeRoles_37 : decode cX7_closeRoles 37 = .ok (.aload_n 0, 1) := by decide +kernel
theorem dX7_closeRoles_38 : decode cX7_closeRoles 38 = .ok (.getfield 113, 3) := by decide +kernel
theorem dX7_closeRoles_41 : decode cX7_closeRoles 41 = .ok (.if_icmp .ge 49, 3) := by decide +kernel
theorem dX7_closeRoles_44 : decode cX7_closeRoles 44 = .ok (.aload_n 0, 1) := by decide +kernel
theorem dX7_closeRoles_45 : decode cX7_closeRoles 45 = .ok (.getfield 31, 3) := by decide +kernel
theorem dX7_closeRoles_48 : decode cX7_closeRoles 48 = .ok (.iload_n 1, 1) := by decide +kernel
theorem dX7_closeRoles_49 : decode cX7_closeRoles 49 = .ok (.baload, 1) := by decide +kernel
theorem dX7_closeRoles_50 : decode cX7_closeRoles 50 = .ok (.ifCond .eq 34, 3) := by decide +kernel
theorem dX7_closeRoles_53 : decode cX7_closeRoles 53 = .ok (.aload_n 0, 1) := by decide +kernel
theorem dX7_closeRoles_54 : decode cX7_closeRoles 54 = .ok (.getfield 19, 3) := by decide +kernel
theorem dX7_closeRoles_57 : decode cX7_closeRoles 57 = .ok (.iload_n 1, 1) := by decide +kernel
theorem dX7_closeRoles_58 : decode cX7_closeRoles 58 = .ok (.iaload, 1) := by decide +kernel
theorem dX7_closeRoles_59 : decode cX7_closeRoles 59 = .ok (.iconst 1, 1) := by decide +kernel
theorem dX7_closeRoles_60 : decode cX7_closeRoles 60 = .ok (.if_icmp .ne 24, 3) := by decide +kernel
theorem dX7_closeRoles_63 : decode cX7_closeRoles 63 = .ok (.aload_n 0, 1) := by decide +kernel
theorem dX7_closeRoles_64 : decode cX7_closeRoles 64 = .ok (.getfield 69, 3) := by decide +kernel
theorem dX7_closeRoles_67 : decode cX7_closeRoles 67 = .ok (.iconst 4, 1) := by decide +kernel
theorem dX7_closeRoles_68 : decode cX7_closeRoles 68 = .ok (.aload_n 0, 1) := by decide +kernel
theorem dX7_closeRoles_69 : decode cX7_closeRoles 69 = .ok (.getfield 22, 3) := by decide +kernel
theorem dX7_closeRoles_72 : decode cX7_closeRoles 72 = .ok (.iload_n 1, 1) := by decide +kernel
theorem dX7_closeRoles_73 : decode cX7_closeRoles 73 = .ok (.iaload, 1) := by decide +kernel
theorem dX7_closeRoles_74 : decode cX7_closeRoles 74 = .ok (.imul, 1) := by decide +kernel
theorem dX7_closeRoles_75 : decode cX7_closeRoles 75 = .ok (.aload_n 0, 1) := by decide +kernel
theorem dX7_closeRoles_76 : decode cX7_closeRoles 76 = .ok (.getfield 25, 3) := by decide +kernel
theorem dX7_closeRoles_79 : decode cX7_closeRoles 79 = .ok (.iload_n 1, 1) := by decide +kernel
theorem dX7_closeRoles_80 : decode cX7_closeRoles 80 = .ok (.iaload, 1) := by decide +kernel
theorem dX7_closeRoles_81 : decode cX7_closeRoles 81 = .ok (.iadd, 1) := by decide +kernel
theorem dX7_closeRoles_82 : decode cX7_closeRoles 82 = .ok (.iconst 1, 1) := by decide +kernel
theorem dX7_closeRoles_83 : decode cX7_closeRoles 83 = .ok (.bastore, 1) := by decide +kernel
theorem dX7_closeRoles_84 : decode cX7_closeRoles 84 = .ok (.iinc 1 1, 3) := by decide +kernel
theorem dX7_closeRoles_87 : decode cX7_closeRoles 87 = .ok (.goto (-51), 3) := by decide +kernel
theorem dX7_closeRoles_90 : decode cX7_closeRoles 90 = .ok (.iconst 0, 1) := by decide +kernel
theorem dX7_closeRoles_91 : decode cX7_closeRoles 91 = .ok (.istore_n 1, 1) := by decide +kernel
theorem dX7_closeRoles_92 : decode cX7_closeRoles 92 = .ok (.iload_n 1, 1) := by decide +kernel
theorem dX7_closeRoles_93 : decode cX7_closeRoles 93 = .ok (.iconst 4, 1) := by decide +kernel
theorem dX7_closeRoles_94 : decode cX7_closeRoles 94 = .ok (.if_icmp .ge 89, 3) := by decide +kernel
theorem dX7_closeRoles_97 : decode cX7_closeRoles 97 = .ok (.iconst 0, 1) := by decide +kernel
theorem dX7_closeRoles_98 : decode cX7_closeRoles 98 = .ok (.istore_n 2, 1) := by decide +kernel
theorem dX7_closeRoles_99 : decode cX7_closeRoles 99 = .ok (.iload_n 2, 1) := by decide +kernel
theorem dX7_closeRoles_100 : decode cX7_closeRoles 100 = .ok (.iconst 4, 1) := by decide +kernel
theorem dX7_closeRoles_101 : decode cX7_closeRoles 101 = .ok (.if_icmp .ge 76, 3) := by decide +kernel
theorem dX7_closeRoles_104 : decode cX7_closeRoles 104 = .ok (.iconst 0, 1) := by decide +kernel
theorem dX7_closeRoles_105 : decode cX7_closeRoles 105 = .ok (.istore_n 3, 1) := by decide +kernel
theorem dX7_closeRoles_106 : decode cX7_closeRoles 106 = .ok (.iload_n 3, 1) := by decide +kernel
theorem dX7_closeRoles_107 : decode cX7_closeRoles 107 = .ok (.iconst 4, 1) := by decide +kernel
theorem dX7_closeRoles_108 : decode cX7_closeRoles 108 = .ok (.if_icmp .ge 63, 3) := by decide +kernel
theorem dX7_closeRoles_111 : decode cX7_closeRoles 111 = .ok (.aload_n 0, 1) := by decide +kernel
theorem dX7_closeRoles_112 : decode cX7_closeRoles 112 = .ok (.getfield 69, 3) := by decide +kernel
theorem dX7_closeRoles_115 : decode cX7_closeRoles 115 = .ok (.iconst 4, 1) := by decide +kernel
theorem dX7_closeRoles_116 : decode cX7_closeRoles 116 = .ok (.iload_n 2, 1) := by decide +kernel
theorem dX7_closeRoles_117 : decode cX7_closeRoles 117 = .ok (.imul, 1) := by decide +kernel
theorem dX7_closeRoles_118 : decode cX7_closeRoles 118 = .ok (.iload_n 3, 1) := by decide +kernel
theorem dX7_closeRoles_119 : decode cX7_closeRoles 119 = .ok (.iadd, 1) := by decide +kernel
theorem dX7_closeRoles_120 : decode cX7_closeRoles 120 = .ok (.aload_n 0, 1) := by decide +kernel
theorem dX7_closeRoles_121 : decode cX7_closeRoles 121 = .ok (.getfield 69, 3) := by decide +kernel
theorem dX7_closeRoles_124 : decode cX7_closeRoles 124 = .ok (.iconst 4, 1) := by decide +kernel
theorem dX7_closeRoles_125 : decode cX7_closeRoles 125 = .ok (.iload_n 2, 1) := by decide +kernel
theorem dX7_closeRoles_126 : decode cX7_closeRoles 126 = .ok (.imul, 1) := by decide +kernel
theorem dX7_closeRoles_127 : decode cX7_closeRoles 127 = .ok (.iload_n 3, 1) := by decide +kernel
theorem dX7_closeRoles_128 : decode cX7_closeRoles 128 = .ok (.iadd, 1) := by decide +kernel
theorem dX7_closeRoles_129 : decode cX7_closeRoles 129 = .ok (.baload, 1) := by decide +kernel
theorem dX7_closeRoles_130 : decode cX7_closeRoles 130 = .ok (.ifCond .ne 29, 3) := by decide +kernel
theorem dX7_closeRoles_133 : decode cX7_closeRoles 133 = .ok (.aload_n 0, 1) := by decide +kernel
theorem dX7_closeRoles_134 : decode cX7_closeRoles 134 = .ok (.getfield 69, 3) := by decide +kernel
theorem dX7_closeRoles_137 : decode cX7_closeRoles 137 = .ok (.iconst 4, 1) := by decide +kernel
theorem dX7_closeRoles_138 : decode cX7_closeRoles 138 = .ok (.iload_n 2, 1) := by decide +kernel
theorem dX7_closeRoles_139 : decode cX7_closeRoles 139 = .ok (.imul, 1) := by decide +kernel
theorem dX7_closeRoles_140 : decode cX7_closeRoles 140 = .ok (.iload_n 1, 1) := by decide +kernel
theorem dX7_closeRoles_141 : decode cX7_closeRoles 141 = .ok (.iadd, 1) := by decide +kernel
theorem dX7_closeRoles_142 : decode cX7_closeRoles 142 = .ok (.baload, 1) := by decide +kernel
theorem dX7_closeRoles_143 : decode cX7_closeRoles 143 = .ok (.ifCond .eq 20, 3) := by decide +kernel
theorem dX7_closeRoles_146 : decode cX7_closeRoles 146 = .ok (.aload_n 0, 1) := by decide +kernel
theorem dX7_closeRoles_147 : decode cX7_closeRoles 147 = .ok (.getfield 69, 3) := by decide +kernel
theorem dX7_closeRoles_150 : decode cX7_closeRoles 150 = .ok (.iconst 4, 1) := by decide +kernel
theorem dX7_closeRoles_151 : decode cX7_closeRoles 151 = .ok (.iload_n 1, 1) := by decide +kernel
theorem dX7_closeRoles_152 : decode cX7_closeRoles 152 = .ok (.imul, 1) := by decide +kernel
theorem dX7_closeRoles_153 : decode cX7_closeRoles 153 = .ok (.iload_n 3, 1) := by decide +kernel
theorem dX7_closeRoles_154 : decode cX7_closeRoles 154 = .ok (.iadd, 1) := by decide +kernel
theorem dX7_closeRoles_155 : decode cX7_closeRoles 155 = .ok (.baload, 1) := by decide +kernel
theorem dX7_closeRoles_156 : decode cX7_closeRoles 156 = .ok (.ifCond .eq 7, 3) := by decide +kernel
theorem dX7_closeRoles_159 : decode cX7_closeRoles 159 = .ok (.iconst 1, 1) := by decide +kernel
theorem dX7_closeRoles_160 : decode cX7_closeRoles 160 = .ok (.goto 4, 3) := by decide +kernel
theorem dX7_closeRoles_163 : decode cX7_closeRoles 163 = .ok (.iconst 0, 1) := by decide +kernel
theorem dX7_closeRoles_164 : decode cX7_closeRoles 164 = .ok (.bastore, 1) := by decide +kernel
theorem dX7_closeRoles_165 : decode cX7_closeRoles 165 = .ok (.iinc 3 1, 3) := by decide +kernel
theorem dX7_closeRoles_168 : decode cX7_closeRoles 168 = .ok (.goto (-62), 3) := by decide +kernel
theorem dX7_closeRoles_171 : decode cX7_closeRoles 171 = .ok (.iinc 2 1, 3) := by decide +kernel
theorem dX7_closeRoles_174 : decode cX7_closeRoles 174 = .ok (.goto (-75), 3) := by decide +kernel
theorem dX7_closeRoles_177 : decode cX7_closeRoles 177 = .ok (.iinc 1 1, 3) := by decide +kernel
theorem dX7_closeRoles_180 : decode cX7_closeRoles 180 = .ok (.goto (-88), 3) := by decide +kernel
theorem dX7_closeRoles_183 : decode cX7_closeRoles 183 = .ok (.return_, 1) := by decide +kernel
theorem dX7_fact_0 : decode cX7_fact 0 = .ok (.aload_n 0, 1) := by decide +kernel
theorem dX7_fact_1 : decode cX7_fact 1 = .ok (.getfield 36, 3) := by decide +kernel
theorem dX7_fact_4 : decode cX7_fact 4 = .ok (.bipush 9, 2) := by decide +kernel
theorem dX7_fact_6 : decode cX7_fact 6 = .ok (.iload_n 1, 1) := by decide +kernel
theorem dX7_fact_7 : decode cX7_fact 7 = .ok (.imul, 1) := by decide +kernel
theorem dX7_fact_8 : decode cX7_fact 8 = .ok (.iload_n 2, 1) := by decide +kernel
theorem dX7_fact_9 : decode cX7_fact 9 = .ok (.iadd, 1) := by decide +kernel
theorem dX7_fact_10 : decode cX7_fact 10 = .ok (.iaload, 1) := by decide +kernel
theorem dX7_fact_11 : decode cX7_fact 11 = .ok (.ireturn, 1) := by decide +kernel
theorem dX7_findIs_0 : decode cX7_findIs 0 = .ok (.bipush 28, 2) := by decide +kernel
theorem dX7_findIs_2 : decode cX7_findIs 2 = .ok (.iload_n 1, 1) := by decide +kernel
theorem dX7_findIs_3 : decode cX7_findIs 3 = .ok (.imul, 1) := by decide +kernel
theorem dX7_findIs_4 : decode cX7_findIs 4 = .ok (.iload_n 2, 1) := by decide +kernel
theorem dX7_findIs_5 : decode cX7_findIs 5 = .ok (.iadd, 1) := by decide +kernel
theorem dX7_findIs_6 : decode cX7_findIs 6 = .ok (.istore 7, 2) := by decide +kernel
theorem dX7_findIs_8 : decode cX7_findIs 8 = .ok (.aload_n 0, 1) := by decide +kernel
theorem dX7_findIs_9 : decode cX7_findIs 9 = .ok (.getfield 39, 3) := by decide +kernel
theorem dX7_findIs_12 : decode cX7_findIs 12 = .ok (.iload 7, 2) := by decide +kernel
theorem dX7_findIs_14 : decode cX7_findIs 14 = .ok (.iaload, 1) := by decide +kernel
theorem dX7_findIs_15 : decode cX7_findIs 15 = .ok (.iconst (-1), 1) := by decide +kernel
theorem dX7_findIs_16 : decode cX7_findIs 16 = .ok (.if_icmp .ne 49, 3) := by decide +kernel
theorem dX7_findIs_19 : decode cX7_findIs 19 = .ok (.aload_n 0, 1) := by decide +kernel
theorem dX7_findIs_20 : decode cX7_findIs 20 = .ok (.getfield 45, 3) := by decide +kernel
theorem dX7_findIs_23 : decode cX7_findIs 23 = .ok (.iload 7, 2) := by decide +kernel
theorem dX7_findIs_25 : decode cX7_findIs 25 = .ok (.iaload, 1) := by decide +kernel
theorem dX7_findIs_26 : decode cX7_findIs 26 = .ok (.iconst (-1), 1) := by decide +kernel
theorem dX7_findIs_27 : decode cX7_findIs 27 = .ok (.if_icmp .ne 38, 3) := by decide +kernel
theorem dX7_findIs_30 : decode cX7_findIs 30 = .ok (.aload_n 0, 1) := by decide +kernel
theorem dX7_findIs_31 : decode cX7_findIs 31 = .ok (.getfield 45, 3) := by decide +kernel
theorem dX7_findIs_34 : decode cX7_findIs 34 = .ok (.iload 7, 2) := by decide +kernel
theorem dX7_findIs_36 : decode cX7_findIs 36 = .ok (.iload_n 3, 1) := by decide +kernel
theorem dX7_findIs_37 : decode cX7_findIs 37 = .ok (.iastore, 1) := by decide +kernel
theorem dX7_findIs_38 : decode cX7_findIs 38 = .ok (.aload_n 0, 1) := by decide +kernel
theorem dX7_findIs_39 : decode cX7_findIs 39 = .ok (.getfield 48, 3) := by decide +kernel
theorem dX7_findIs_42 : decode cX7_findIs 42 = .ok (.iload 7, 2) := by decide +kernel
theorem dX7_findIs_44 : decode cX7_findIs 44 = .ok (.iload 4, 2) := by decide +kernel
theorem dX7_findIs_46 : decode cX7_findIs 46 = .ok (.iastore, 1) := by decide +kernel
theorem dX7_findIs_47 : decode cX7_findIs 47 = .ok (.aload_n 0, 1) := by decide +kernel
theorem dX7_findIs_48 : decode cX7_findIs 48 = .ok (.getfield 51, 3) := by decide +kernel
theorem dX7_findIs_51 : decode cX7_findIs 51 = .ok (.iload 7, 2) := by decide +kernel
theorem dX7_findIs_53 : decode cX7_findIs 53 = .ok (.iload 5, 2) := by decide +kernel
theorem dX7_findIs_55 : decode cX7_findIs 55 = .ok (.iastore, 1) := by decide +kernel
theorem dX7_findIs_56 : decode cX7_findIs 56 = .ok (.aload_n 0, 1) := by decide +kernel
theorem dX7_findIs_57 : decode cX7_findIs 57 = .ok (.getfield 54, 3) := by decide +kernel
theorem dX7_findIs_60 : decode cX7_findIs 60 = .ok (.iload 7, 2) := by decide +kernel
theorem dX7_findIs_62 : decode cX7_findIs 62 = .ok (.iload 6, 2) := by decide +kernel
theorem dX7_findIs_64 : decode cX7_findIs 64 = .ok (.iastore, 1) := by decide +kernel
theorem dX7_findIs_65 : decode cX7_findIs 65 = .ok (.return_, 1) := by decide +kernel
theorem dX7_findTo_0 : decode cX7_findTo 0 = .ok (.bipush 112, 2) := by decide +kernel
theorem dX7_findTo_2 : decode cX7_findTo 2 = .ok (.iload_n 1, 1) := by decide +kernel
theorem dX7_findTo_3 : decode cX7_findTo 3 = .ok (.imul, 1) := by decide +kernel
theorem dX7_findTo_4 : decode cX7_findTo 4 = .ok (.bipush 28, 2) := by decide +kernel
theorem dX7_findTo_6 : decode cX7_findTo 6 = .ok (.iload_n 2, 1) := by decide +kernel
theorem dX7_findTo_7 : decode cX7_findTo 7 = .ok (.imul, 1) := by decide +kernel
theorem dX7_findTo_8 : decode cX7_findTo 8 = .ok (.iadd, 1) := by decide +kernel
theorem dX7_findTo_9 : decode cX7_findTo 9 = .ok (.iload_n 3, 1) := by decide +kernel
theorem dX7_findTo_10 : decode cX7_findTo 10 = .ok (.iadd, 1) := by decide +kernel
theorem dX7_findTo_11 : decode cX7_findTo 11 = .ok (.istore 8, 2) := by decide +kernel
theorem dX7_findTo_13 : decode cX7_findTo 13 = .ok (.aload_n 0, 1) := by decide +kernel
theorem dX7_findTo_14 : decode cX7_findTo 14 = .ok (.getfield 42, 3) := by decide +kernel
theorem dX7_findTo_17 : decode cX7_findTo 17 = .ok (.iload 8, 2) := by decide +kernel
theorem dX7_findTo_19 : decode cX7_findTo 19 = .ok (.iaload, 1) := by decide +kernel
theorem dX7_findTo_20 : decode cX7_findTo 20 = .ok (.iconst (-1), 1) := by decide +kernel
theorem dX7_findTo_21 : decode cX7_findTo 21 = .ok (.if_icmp .ne 50, 3) := by decide +kernel
theorem dX7_findTo_24 : decode cX7_findTo 24 = .ok (.aload_n 0, 1) := by decide +kernel
theorem dX7_findTo_25 : decode cX7_findTo 25 = .ok (.getfield 57, 3) := by decide +kernel
theorem dX7_findTo_28 : decode cX7_findTo 28 = .ok (.iload 8, 2) := by decide +kernel
theorem dX7_findTo_30 : decode cX7_findTo 30 = .ok (.iaload, 1) := by decide +kernel
theorem dX7_findTo_31 : decode cX7_findTo 31 = .ok (.iconst (-1), 1) := by decide +kernel
theorem dX7_findTo_32 : decode cX7_findTo 32 = .ok (.if_icmp .ne 39, 3) := by decide +kernel
theorem dX7_findTo_35 : decode cX7_findTo 35 = .ok (.aload_n 0, 1) := by decide +kernel
theorem dX7_findTo_36 : decode cX7_findTo 36 = .ok (.getfield 57, 3) := by decide +kernel
theorem dX7_findTo_39 : decode cX7_findTo 39 = .ok (.iload 8, 2) := by decide +kernel
theorem dX7_findTo_41 : decode cX7_findTo 41 = .ok (.iload 4, 2) := by decide +kernel
theorem dX7_findTo_43 : decode cX7_findTo 43 = .ok (.iastore, 1) := by decide +kernel
theorem dX7_findTo_44 : decode cX7_findTo 44 = .ok (.aload_n 0, 1) := by decide +kernel
theorem dX7_findTo_45 : decode cX7_findTo 45 = .ok (.getfield 60, 3) := by decide +kernel
theorem dX7_findTo_48 : decode cX7_findTo 48 = .ok (.iload 8, 2) := by decide +kernel
theorem dX7_findTo_50 : decode cX7_findTo 50 = .ok (.iload 5, 2) := by decide +kernel
theorem dX7_findTo_52 : decode cX7_findTo 52 = .ok (.iastore, 1) := by decide +kernel
theorem dX7_findTo_53 : decode cX7_findTo 53 = .ok (.aload_n 0, 1) := by decide +kernel
theorem dX7_findTo_54 : decode cX7_findTo 54 = .ok (.getfield 63, 3) := by decide +kernel
theorem dX7_findTo_57 : decode cX7_findTo 57 = .ok (.iload 8, 2) := by decide +kernel
theorem dX7_findTo_59 : decode cX7_findTo 59 = .ok (.iload 6, 2) := by decide +kernel
theorem dX7_findTo_61 : decode cX7_findTo 61 = .ok (.iastore, 1) := by decide +kernel
theorem dX7_findTo_62 : decode cX7_findTo 62 = .ok (.aload_n 0, 1) := by decide +kernel
theorem dX7_findTo_63 : decode cX7_findTo 63 = .ok (.getfield 66, 3) := by decide +kernel
theorem dX7_findTo_66 : decode cX7_findTo 66 = .ok (.iload 8, 2) := by decide +kernel
theorem dX7_findTo_68 : decode cX7_findTo 68 = .ok (.iload 7, 2) := by decide +kernel
theorem dX7_findTo_70 : decode cX7_findTo 70 = .ok (.iastore, 1) := by decide +kernel
theorem dX7_findTo_71 : decode cX7_findTo 71 = .ok (.return_, 1) := by decide +kernel
theorem dX7_leastTo_0 : decode cX7_leastTo 0 = .ok (.iconst 0, 1) := by decide +kernel
theorem dX7_leastTo_1 : decode cX7_leastTo 1 = .ok (.istore_n 2, 1) := by decide +kernel
theorem dX7_leastTo_2 : decode cX7_leastTo 2 = .ok (.iload_n 2, 1) := by decide +kernel
theorem dX7_leastTo_3 : decode cX7_leastTo 3 = .ok (.aload_n 0, 1) := by decide +kernel
theorem dX7_leastTo_4 : decode cX7_leastTo 4 = .ok (.getfield 120, 3) := by decide +kernel
theorem dX7_leastTo_7 : decode cX7_leastTo 7 = .ok (.if_icmp .ge 31, 3) := by decide +kernel
theorem dX7_leastTo_10 : decode cX7_leastTo 10 = .ok (.aload_n 0, 1) := by decide +kernel
theorem dX7_leastTo_11 : decode cX7_leastTo 11 = .ok (.iload_n 2, 1) := by decide +kernel
theorem dX7_leastTo_12 : decode cX7_leastTo 12 = .ok (.iconst 0, 1) := by decide +kernel
theorem dX7_leastTo_13 : decode cX7_leastTo 13 = .ok (.invokevirtual 123, 3) := by decide +kernel
theorem dX7_leastTo_16 : decode cX7_leastTo 16 = .ok (.iconst 1, 1) := by decide +kernel
theorem dX7_leastTo_17 : decode cX7_leastTo 17 = .ok (.if_icmp .ne 15, 3) := by decide +kernel
theorem dX7_leastTo_20 : decode cX7_leastTo 20 = .ok (.aload_n 0, 1) := by decide +kernel
theorem dX7_leastTo_21 : decode cX7_leastTo 21 = .ok (.iload_n 2, 1) := by decide +kernel
theorem dX7_leastTo_22 : decode cX7_leastTo 22 = .ok (.iconst 2, 1) := by decide +kernel
theorem dX7_leastTo_23 : decode cX7_leastTo 23 = .ok (.invokevirtual 123, 3) := by decide +kernel
theorem dX7_leastTo_26 : decode cX7_leastTo 26 = .ok (.iload_n 1, 1) := by decide +kernel
theorem dX7_leastTo_27 : decode cX7_leastTo 27 = .ok (.if_icmp .ne 5, 3) := by decide +kernel
theorem dX7_leastTo_30 : decode cX7_leastTo 30 = .ok (.iload_n 2, 1) := by decide +kernel
theorem dX7_leastTo_31 : decode cX7_leastTo 31 = .ok (.ireturn, 1) := by decide +kernel
theorem dX7_leastTo_32 : decode cX7_leastTo 32 = .ok (.iinc 2 1, 3) := by decide +kernel
theorem dX7_leastTo_35 : decode cX7_leastTo 35 = .ok (.goto (-33), 3) := by decide +kernel
theorem dX7_leastTo_38 : decode cX7_leastTo 38 = .ok (.iconst (-1), 1) := by decide +kernel
theorem dX7_leastTo_39 : decode cX7_leastTo 39 = .ok (.ireturn, 1) := by decide +kernel
theorem dX7_isSeed_0 : decode cX7_isSeed 0 = .ok (.aload_n 0, 1) := by decide +kernel
theorem dX7_isSeed_1 : decode cX7_isSeed 1 = .ok (.getfield 7, 3) := by decide +kernel
theorem dX7_isSeed_4 : decode cX7_isSeed 4 = .ok (.iload_n 1, 1) := by decide +kernel
theorem dX7_isSeed_5 : decode cX7_isSeed 5 = .ok (.iaload, 1) := by decide +kernel
theorem dX7_isSeed_6 : decode cX7_isSeed 6 = .ok (.ifCond .eq 13, 3) := by decide +kernel
theorem dX7_isSeed_9 : decode cX7_isSeed 9 = .ok (.aload_n 0, 1) := by decide +kernel
theorem dX7_isSeed_10 : decode cX7_isSeed 10 = .ok (.getfield 7, 3) := by decide +kernel
theorem dX7_isSeed_13 : decode cX7_isSeed 13 = .ok (.iload_n 1, 1) := by decide +kernel
theorem dX7_isSeed_14 : decode cX7_isSeed 14 = .ok (.iaload, 1) := by decide +kernel
theorem dX7_isSeed_15 : decode cX7_isSeed 15 = .ok (.iconst 2, 1) := by decide +kernel
theorem dX7_isSeed_16 : decode cX7_isSeed 16 = .ok (.if_icmp .ne 7, 3) := by decide +kernel
theorem dX7_isSeed_19 : decode cX7_isSeed 19 = .ok (.iconst 1, 1) := by decide +kernel
theorem dX7_isSeed_20 : decode cX7_isSeed 20 = .ok (.goto 4, 3) := by decide +kernel
theorem dX7_isSeed_23 : decode cX7_isSeed 23 = .ok (.iconst 0, 1) := by decide +kernel
theorem dX7_isSeed_24 : decode cX7_isSeed 24 = .ok (.ireturn, 1) := by decide +kernel
theorem dX7_isBegun_0 : decode cX7_isBegun 0 = .ok (.aload_n 0, 1) := by decide +kernel
theorem dX7_isBegun_1 : decode cX7_isBegun 1 = .ok (.iload_n 1, 1) := by decide +kernel
theorem dX7_isBegun_2 : decode cX7_isBegun 2 = .ok (.invokevirtual 127, 3) := by decide +kernel
theorem dX7_isBegun_5 : decode cX7_isBegun 5 = .ok (.ifCond .ne 12, 3) := by decide +kernel
theorem dX7_isBegun_8 : decode cX7_isBegun 8 = .ok (.aload_n 0, 1) := by decide +kernel
theorem dX7_isBegun_9 : decode cX7_isBegun 9 = .ok (.iload_n 1, 1) := by decide +kernel
theorem dX7_isBegun_10 : decode cX7_isBegun 10 = .ok (.invokevirtual 130, 3) := by decide +kernel
theorem dX7_isBegun_13 : decode cX7_isBegun 13 = .ok (.iconst (-1), 1) := by decide +kernel
theorem dX7_isBegun_14 : decode cX7_isBegun 14 = .ok (.if_icmp .eq 7, 3) := by decide +kernel
theorem dX7_isBegun_17 : decode cX7_isBegun 17 = .ok (.iconst 1, 1) := by decide +kernel
theorem dX7_isBegun_18 : decode cX7_isBegun 18 = .ok (.goto 4, 3) := by decide +kernel
theorem dX7_isBegun_21 : decode cX7_isBegun 21 = .ok (.iconst 0, 1) := by decide +kernel
theorem dX7_isBegun_22 : decode cX7_isBegun 22 = .ok (.ireturn, 1) := by decide +kernel
theorem dX7_ofBegun_0 : decode cX7_ofBegun 0 = .ok (.iconst 0, 1) := by decide +kernel
theorem dX7_ofBegun_1 : decode cX7_ofBegun 1 = .ok (.istore_n 1, 1) := by decide +kernel
theorem dX7_ofBegun_2 : decode cX7_ofBegun 2 = .ok (.iload_n 1, 1) := by decide +kernel
theorem dX7_ofBegun_3 : decode cX7_ofBegun 3 = .ok (.aload_n 0, 1) := by decide +kernel
theorem dX7_ofBegun_4 : decode cX7_ofBegun 4 = .ok (.getfield 84, 3) := by decide +kernel
theorem dX7_ofBegun_7 : decode cX7_ofBegun 7 = .ok (.if_icmp .ge 50, 3) := by decide +kernel
theorem dX7_ofBegun_10 : decode cX7_ofBegun 10 = .ok (.aload_n 0, 1) := by decide +kernel
theorem dX7_ofBegun_11 : decode cX7_ofBegun 11 = .ok (.iload_n 1, 1) := by decide +kernel
theorem dX7_ofBegun_12 : decode cX7_ofBegun 12 = .ok (.invokevirtual 127, 3) := by decide +kernel
theorem dX7_ofBegun_15 : decode cX7_ofBegun 15 = .ok (.ifCond .eq 7, 3) := by decide +kernel
theorem dX7_ofBegun_18 : decode cX7_ofBegun 18 = .ok (.iconst (-1), 1) := by decide +kernel
theorem dX7_ofBegun_19 : decode cX7_ofBegun 19 = .ok (.goto 8, 3) := by decide +kernel
theorem dX7_ofBegun_22 : decode cX7_ofBegun 22 = .ok (.aload_n 0, 1) := by decide +kernel
theorem dX7_ofBegun_23 : decode cX7_ofBegun 23 = .ok (.iload_n 1, 1) := by decide +kernel
theorem dX7_ofBegun_24 : decode cX7_ofBegun 24 = .ok (.invokevirtual 130, 3) := by decide +kernel
theorem dX7_ofBegun_27 : decode cX7_ofBegun 27 = .ok (.istore_n 2, 1) := by decide +kernel
theorem dX7_ofBegun_28 : decode cX7_ofBegun 28 = .ok (.aload_n 0, 1) := by decide +kernel
theorem dX7_ofBegun_29 : decode cX7_ofBegun 29 = .ok (.iload_n 1, 1) := by decide +kernel
theorem dX7_ofBegun_30 : decode cX7_ofBegun 30 = .ok (.invokevirtual 127, 3) := by decide +kernel
theorem dX7_ofBegun_33 : decode cX7_ofBegun 33 = .ok (.ifCond .ne 8, 3) := by decide +kernel
theorem dX7_ofBegun_36 : decode cX7_ofBegun 36 = .ok (.iload_n 2, 1) := by decide +kernel
theorem dX7_ofBegun_37 : decode cX7_ofBegun 37 = .ok (.iconst (-1), 1) := by decide +kernel
theorem dX7_ofBegun_38 : decode cX7_ofBegun 38 = .ok (.if_icmp .eq 13, 3) := by decide +kernel
theorem dX7_ofBegun_41 : decode cX7_ofBegun 41 = .ok (.aload_n 0, 1) := by decide +kernel
theorem dX7_ofBegun_42 : decode cX7_ofBegun 42 = .ok (.iload_n 1, 1) := by decide +kernel
theorem dX7_ofBegun_43 : decode cX7_ofBegun 43 = .ok (.iload_n 1, 1) := by decide +kernel
theorem dX7_ofBegun_44 : decode cX7_ofBegun 44 = .ok (.iconst 0, 1) := by decide +kernel
theorem dX7_ofBegun_45 : decode cX7_ofBegun 45 = .ok (.iload_n 2, 1) := by decide +kernel
theorem dX7_ofBegun_46 : decode cX7_ofBegun 46 = .ok (.iconst (-1), 1) := by decide +kernel
theorem dX7_ofBegun_47 : decode cX7_ofBegun 47 = .ok (.iconst (-1), 1) := by decide +kernel
theorem dX7_ofBegun_48 : decode cX7_ofBegun 48 = .ok (.invokevirtual 134, 3) := by decide +kernel
theorem dX7_ofBegun_51 : decode cX7_ofBegun 51 = .ok (.iinc 1 1, 3) := by decide +kernel
theorem dX7_ofBegun_54 : decode cX7_ofBegun 54 = .ok (.goto (-52), 3) := by decide +kernel
theorem dX7_ofBegun_57 : decode cX7_ofBegun 57 = .ok (.iconst 0, 1) := by decide +kernel
theorem dX7_ofBegun_58 : decode cX7_ofBegun 58 = .ok (.istore_n 1, 1) := by decide +kernel
theorem dX7_ofBegun_59 : decode cX7_ofBegun 59 = .ok (.iload_n 1, 1) := by decide +kernel
theorem dX7_ofBegun_60 : decode cX7_ofBegun 60 = .ok (.aload_n 0, 1) := by decide +kernel
theorem dX7_ofBegun_61 : decode cX7_ofBegun 61 = .ok (.getfield 84, 3) := by decide +kernel
theorem dX7_ofBegun_64 : decode cX7_ofBegun 64 = .ok (.if_icmp .ge 50, 3) := by decide +kernel
theorem dX7_ofBegun_67 : decode cX7_ofBegun 67 = .ok (.aload_n 0, 1) := by decide +kernel
theorem dX7_ofBegun_68 : decode cX7_ofBegun 68 = .ok (.iload_n 1, 1) := by decide +kernel
theorem dX7_ofBegun_69 : decode cX7_ofBegun 69 = .ok (.invokevirtual 127, 3) := by decide +kernel
theorem dX7_ofBegun_72 : decode cX7_ofBegun 72 = .ok (.ifCond .eq 7, 3) := by decide +kernel
theorem dX7_ofBegun_75 : decode cX7_ofBegun 75 = .ok (.iconst (-1), 1) := by decide +kernel
theorem dX7_ofBegun_76 : decode cX7_ofBegun 76 = .ok (.goto 8, 3) := by decide +kernel
theorem dX7_ofBegun_79 : decode cX7_ofBegun 79 = .ok (.aload_n 0, 1) := by decide +kernel
theorem dX7_ofBegun_80 : decode cX7_ofBegun 80 = .ok (.iload_n 1, 1) := by decide +kernel
theorem dX7_ofBegun_81 : decode cX7_ofBegun 81 = .ok (.invokevirtual 130, 3) := by decide +kernel
theorem dX7_ofBegun_84 : decode cX7_ofBegun 84 = .ok (.istore_n 2, 1) := by decide +kernel
theorem dX7_ofBegun_85 : decode cX7_ofBegun 85 = .ok (.aload_n 0, 1) := by decide +kernel
theorem dX7_ofBegun_86 : decode cX7_ofBegun 86 = .ok (.iload_n 1, 1) := by decide +kernel
theorem dX7_ofBegun_87 : decode cX7_ofBegun 87 = .ok (.invokevirtual 127, 3) := by decide +kernel
theorem dX7_ofBegun_90 : decode cX7_ofBegun 90 = .ok (.ifCond .ne 8, 3) := by decide +kernel
theorem dX7_ofBegun_93 : decode cX7_ofBegun 93 = .ok (.iload_n 2, 1) := by decide +kernel
theorem dX7_ofBegun_94 : decode cX7_ofBegun 94 = .ok (.iconst (-1), 1) := by decide +kernel
theorem dX7_ofBegun_95 : decode cX7_ofBegun 95 = .ok (.if_icmp .eq 13, 3) := by decide +kernel
theorem dX7_ofBegun_98 : decode cX7_ofBegun 98 = .ok (.aload_n 0, 1) := by decide +kernel
theorem dX7_ofBegun_99 : decode cX7_ofBegun 99 = .ok (.iload_n 1, 1) := by decide +kernel
theorem dX7_ofBegun_100 : decode cX7_ofBegun 100 = .ok (.iconst 0, 1) := by decide +kernel
theorem dX7_ofBegun_101 : decode cX7_ofBegun 101 = .ok (.iconst 1, 1) := by decide +kernel
theorem dX7_ofBegun_102 : decode cX7_ofBegun 102 = .ok (.iload_n 2, 1) := by decide +kernel
theorem dX7_ofBegun_103 : decode cX7_ofBegun 103 = .ok (.iconst (-1), 1) := by decide +kernel
theorem dX7_ofBegun_104 : decode cX7_ofBegun 104 = .ok (.iconst (-1), 1) := by decide +kernel
theorem dX7_ofBegun_105 : decode cX7_ofBegun 105 = .ok (.invokevirtual 134, 3) := by decide +kernel
theorem dX7_ofBegun_108 : decode cX7_ofBegun 108 = .ok (.iinc 1 1, 3) := by decide +kernel
theorem dX7_ofBegun_111 : decode cX7_ofBegun 111 = .ok (.goto (-52), 3) := by decide +kernel
theorem dX7_ofBegun_114 : decode cX7_ofBegun 114 = .ok (.return_, 1) := by decide +kernel
theorem dX7_ofMeets_0 : decode cX7_ofMeets 0 = .ok (.iconst 0, 1) := by decide +kernel
theorem dX7_ofMeets_1 : decode cX7_ofMeets 1 = .ok (.istore_n 1, 1) := by decide +kernel
theorem dX7_ofMeets_2 : decode cX7_ofMeets 2 = .ok (.iload_n 1, 1) := by decide +kernel
theorem dX7_ofMeets_3 : decode cX7_ofMeets 3 = .ok (.aload_n 0, 1) := by decide +kernel
theorem dX7_ofMeets_4 : decode cX7_ofMeets 4 = .ok (.getfield 120, 3) := by decide +kernel
theorem dX7_ofMeets_7 : decode cX7_ofMeets 7 = .ok (.if_icmp .ge 75, 3) := by decide +kernel
theorem dX7_ofMeets_10 : decode cX7_ofMeets 10 = .ok (.aload_n 0, 1) := by decide +kernel
theorem dX7_ofMeets_11 : decode cX7_ofMeets 11 = .ok (.iload_n 1, 1) := by decide +kernel
theorem dX7_ofMeets_12 : decode cX7_ofMeets 12 = .ok (.iconst 2, 1) := by decide +kernel
theorem dX7_ofMeets_13 : decode cX7_ofMeets 13 = .ok (.invokevirtual 123, 3) := by decide +kernel
theorem dX7_ofMeets_16 : decode cX7_ofMeets 16 = .ok (.istore_n 2, 1) := by decide +kernel
theorem dX7_ofMeets_17 : decode cX7_ofMeets 17 = .ok (.aload_n 0, 1) := by decide +kernel
theorem dX7_ofMeets_18 : decode cX7_ofMeets 18 = .ok (.iload_n 1, 1) := by decide +kernel
theorem dX7_ofMeets_19 : decode cX7_ofMeets 19 = .ok (.iconst 0, 1) := by decide +kernel
theorem dX7_ofMeets_20 : decode cX7_ofMeets 20 = .ok (.invokevirtual 123, 3) := by decide +kernel
theorem dX7_ofMeets_23 : decode cX7_ofMeets 23 = .ok (.ifCond .ne 53, 3) := by decide +kernel
theorem dX7_ofMeets_26 : decode cX7_ofMeets 26 = .ok (.aload_n 0, 1) := by decide +kernel
theorem dX7_ofMeets_27 : decode cX7_ofMeets 27 = .ok (.getfield 7, 3) := by decide +kernel
theorem dX7_ofMeets_30 : decode cX7_ofMeets 30 = .ok (.iload_n 2, 1) := by decide +kernel
theorem dX7_ofMeets_31 : decode cX7_ofMeets 31 = .ok (.iaload, 1) := by decide +kernel
theorem dX7_ofMeets_32 : decode cX7_ofMeets 32 = .ok (.iconst 3, 1) := by decide +kernel
theorem dX7_ofMeets_33 : decode cX7_ofMeets 33 = .ok (.if_icmp .ne 43, 3) := by decide +kernel
theorem dX7_ofMeets_36 : decode cX7_ofMeets 36 = .ok (.aload_n 0, 1) := by decide +kernel
theorem dX7_ofMeets_37 : decode cX7_ofMeets 37 = .ok (.aload_n 0, 1) := by decide +kernel
theorem dX7_ofMeets_38 : decode cX7_ofMeets 38 = .ok (.iload_n 1, 1) := by decide +kernel
theorem dX7_ofMeets_39 : decode cX7_ofMeets 39 = .ok (.iconst 1, 1) := by decide +kernel
theorem dX7_ofMeets_40 : decode cX7_ofMeets 40 = .ok (.invokevirtual 123, 3) := by decide +kernel
theorem dX7_ofMeets_43 : decode cX7_ofMeets 43 = .ok (.aload_n 0, 1) := by decide +kernel
theorem dX7_ofMeets_44 : decode cX7_ofMeets 44 = .ok (.getfield 13, 3) := by decide +kernel
theorem dX7_ofMeets_47 : decode cX7_ofMeets 47 = .ok (.iload_n 2, 1) := by decide +kernel
theorem dX7_ofMeets_48 : decode cX7_ofMeets 48 = .ok (.iaload, 1) := by decide +kernel
theorem dX7_ofMeets_49 : decode cX7_ofMeets 49 = .ok (.iconst 2, 1) := by decide +kernel
theorem dX7_ofMeets_50 : decode cX7_ofMeets 50 = .ok (.iload_n 1, 1) := by decide +kernel
theorem dX7_ofMeets_51 : decode cX7_ofMeets 51 = .ok (.iconst (-1), 1) := by decide +kernel
theorem dX7_ofMeets_52 : decode cX7_ofMeets 52 = .ok (.iconst (-1), 1) := by decide +kernel
theorem dX7_ofMeets_53 : decode cX7_ofMeets 53 = .ok (.invokevirtual 134, 3) := by decide +kernel
theorem dX7_ofMeets_56 : decode cX7_ofMeets 56 = .ok (.aload_n 0, 1) := by decide +kernel
theorem dX7_ofMeets_57 : decode cX7_ofMeets 57 = .ok (.aload_n 0, 1) := by decide +kernel
theorem dX7_ofMeets_58 : decode cX7_ofMeets 58 = .ok (.iload_n 1, 1) := by decide +kernel
theorem dX7_ofMeets_59 : decode cX7_ofMeets 59 = .ok (.iconst 1, 1) := by decide +kernel
theorem dX7_ofMeets_60 : decode cX7_ofMeets 60 = .ok (.invokevirtual 123, 3) := by decide +kernel
theorem dX7_ofMeets_63 : decode cX7_ofMeets 63 = .ok (.aload_n 0, 1) := by decide +kernel
theorem dX7_ofMeets_64 : decode cX7_ofMeets 64 = .ok (.getfield 16, 3) := by decide +kernel
theorem dX7_ofMeets_67 : decode cX7_ofMeets 67 = .ok (.iload_n 2, 1) := by decide +kernel
theorem dX7_ofMeets_68 : decode cX7_ofMeets 68 = .ok (.iaload, 1) := by decide +kernel
theorem dX7_ofMeets_69 : decode cX7_ofMeets 69 = .ok (.iconst 2, 1) := by decide +kernel
theorem dX7_ofMeets_70 : decode cX7_ofMeets 70 = .ok (.iload_n 1, 1) := by decide +kernel
theorem dX7_ofMeets_71 : decode cX7_ofMeets 71 = .ok (.iconst (-1), 1) := by decide +kernel
theorem dX7_ofMeets_72 : decode cX7_ofMeets 72 = .ok (.iconst (-1), 1) := by decide +kernel
theorem dX7_ofMeets_73 : decode cX7_ofMeets 73 = .ok (.invokevirtual 134, 3) := by decide +kernel
theorem dX7_ofMeets_76 : decode cX7_ofMeets 76 = .ok (.iinc 1 1, 3) := by decide +kernel
theorem dX7_ofMeets_79 : decode cX7_ofMeets 79 = .ok (.goto (-77), 3) := by decide +kernel
theorem dX7_ofMeets_82 : decode cX7_ofMeets 82 = .ok (.iconst 0, 1) := by decide +kernel
theorem dX7_ofMeets_83 : decode cX7_ofMeets 83 = .ok (.istore_n 1, 1) := by decide +kernel
theorem dX7_ofMeets_84 : decode cX7_ofMeets 84 = .ok (.iload_n 1, 1) := by decide +kernel
theorem dX7_ofMeets_85 : decode cX7_ofMeets 85 = .ok (.aload_n 0, 1) := by decide +kernel
theorem dX7_ofMeets_86 : decode cX7_ofMeets 86 = .ok (.getfield 84, 3) := by decide +kernel
theorem dX7_ofMeets_89 : decode cX7_ofMeets 89 = .ok (.if_icmp .ge 115, 3) := by decide +kernel
theorem dX7_ofMeets_92 : decode cX7_ofMeets 92 = .ok (.iconst 0, 1) := by decide +kernel
theorem dX7_ofMeets_93 : decode cX7_ofMeets 93 = .ok (.istore_n 2, 1) := by decide +kernel
theorem dX7_ofMeets_94 : decode cX7_ofMeets 94 = .ok (.iload_n 2, 1) := by decide +kernel
theorem dX7_ofMeets_95 : decode cX7_ofMeets 95 = .ok (.aload_n 0, 1) := by decide +kernel
theorem dX7_ofMeets_96 : decode cX7_ofMeets 96 = .ok (.getfield 84, 3) := by decide +kernel
theorem dX7_ofMeets_99 : decode cX7_ofMeets 99 = .ok (.if_icmp .ge 99, 3) := by decide +kernel
theorem dX7_ofMeets_102 : decode cX7_ofMeets 102 = .ok (.aload_n 0, 1) := by decide +kernel
theorem dX7_ofMeets_103 : decode cX7_ofMeets 103 = .ok (.getfield 7, 3) := by decide +kernel
theorem dX7_ofMeets_106 : decode cX7_ofMeets 106 = .ok (.iload_n 2, 1) := by decide +kernel
theorem dX7_ofMeets_107 : decode cX7_ofMeets 107 = .ok (.iaload, 1) := by decide +kernel
theorem dX7_ofMeets_108 : decode cX7_ofMeets 108 = .ok (.iconst 3, 1) := by decide +kernel
theorem dX7_ofMeets_109 : decode cX7_ofMeets 109 = .ok (.if_icmp .ne 83, 3) := by decide +kernel
theorem dX7_ofMeets_112 : decode cX7_ofMeets 112 = .ok (.aload_n 0, 1) := by decide +kernel
theorem dX7_ofMeets_113 : decode cX7_ofMeets 113 = .ok (.getfield 39, 3) := by decide +kernel
theorem dX7_ofMeets_116 : decode cX7_ofMeets 116 = .ok (.bipush 28, 2) := by decide +kernel
theorem dX7_ofMeets_118 : decode cX7_ofMeets 118 = .ok (.iload_n 1, 1) := by decide +kernel
theorem dX7_ofMeets_119 : decode cX7_ofMeets 119 = .ok (.imul, 1) := by decide +kernel
theorem dX7_ofMeets_120 : decode cX7_ofMeets 120 = .ok (.aload_n 0, 1) := by decide +kernel
theorem dX7_ofMeets_121 : decode cX7_ofMeets 121 = .ok (.getfield 13, 3) := by decide +kernel
theorem dX7_ofMeets_124 : decode cX7_ofMeets 124 = .ok (.iload_n 2, 1) := by decide +kernel
theorem dX7_ofMeets_125 : decode cX7_ofMeets 125 = .ok (.iaload, 1) := by decide +kernel
theorem dX7_ofMeets_126 : decode cX7_ofMeets 126 = .ok (.iadd, 1) := by decide +kernel
theorem dX7_ofMeets_127 : decode cX7_ofMeets 127 = .ok (.iaload, 1) := by decide +kernel
theorem dX7_ofMeets_128 : decode cX7_ofMeets 128 = .ok (.iconst (-1), 1) := by decide +kernel
theorem dX7_ofMeets_129 : decode cX7_ofMeets 129 = .ok (.if_icmp .eq 63, 3) := by decide +kernel
theorem dX7_ofMeets_132 : decode cX7_ofMeets 132 = .ok (.aload_n 0, 1) := by decide +kernel
theorem dX7_ofMeets_133 : decode cX7_ofMeets 133 = .ok (.getfield 39, 3) := by decide +kernel
theorem dX7_ofMeets_136 : decode cX7_ofMeets 136 = .ok (.bipush 28, 2) := by decide +kernel
theorem dX7_ofMeets_138 : decode cX7_ofMeets 138 = .ok (.iload_n 1, 1) := by decide +kernel
theorem dX7_ofMeets_139 : decode cX7_ofMeets 139 = .ok (.imul, 1) := by decide +kernel
theorem dX7_ofMeets_140 : decode cX7_ofMeets 140 = .ok (.aload_n 0, 1) := by decide +kernel
theorem dX7_ofMeets_141 : decode cX7_ofMeets 141 = .ok (.getfield 16, 3) := by decide +kernel
theorem dX7_ofMeets_144 : decode cX7_ofMeets 144 = .ok (.iload_n 2, 1) := by decide +kernel
theorem dX7_ofMeets_145 : decode cX7_ofMeets 145 = .ok (.iaload, 1) := by decide +kernel
theorem dX7_ofMeets_146 : decode cX7_ofMeets 146 = .ok (.iadd, 1) := by decide +kernel
theorem dX7_ofMeets_147 : decode cX7_ofMeets 147 = .ok (.iaload, 1) := by decide +kernel
theorem dX7_ofMeets_148 : decode cX7_ofMeets 148 = .ok (.iconst (-1), 1) := by decide +kernel
theorem dX7_ofMeets_149 : decode cX7_ofMeets 149 = .ok (.if_icmp .eq 43, 3) := by decide +kernel
theorem dX7_ofMeets_152 : decode cX7_ofMeets 152 = .ok (.aload_n 0, 1) := by decide +kernel
theorem dX7_ofMeets_153 : decode cX7_ofMeets 153 = .ok (.iload_n 1, 1) := by decide +kernel
theorem dX7_ofMeets_154 : decode cX7_ofMeets 154 = .ok (.iload_n 2, 1) := by decide +kernel
theorem dX7_ofMeets_155 : decode cX7_ofMeets 155 = .ok (.iconst 3, 1) := by decide +kernel
theorem dX7_ofMeets_156 : decode cX7_ofMeets 156 = .ok (.aload_n 0, 1) := by decide +kernel
theorem dX7_ofMeets_157 : decode cX7_ofMeets 157 = .ok (.getfield 39, 3) := by decide +kernel
theorem dX7_ofMeets_160 : decode cX7_ofMeets 160 = .ok (.bipush 28, 2) := by decide +kernel
theorem dX7_ofMeets_162 : decode cX7_ofMeets 162 = .ok (.iload_n 1, 1) := by decide +kernel
theorem dX7_ofMeets_163 : decode cX7_ofMeets 163 = .ok (.imul, 1) := by decide +kernel
theorem dX7_ofMeets_164 : decode cX7_ofMeets 164 = .ok (.aload_n 0, 1) := by decide +kernel
theorem dX7_ofMeets_165 : decode cX7_ofMeets 165 = .ok (.getfield 13, 3) := by decide +kernel
theorem dX7_ofMeets_168 : decode cX7_ofMeets 168 = .ok (.iload_n 2, 1) := by decide +kernel
theorem dX7_ofMeets_169 : decode cX7_ofMeets 169 = .ok (.iaload, 1) := by decide +kernel
theorem dX7_ofMeets_170 : decode cX7_ofMeets 170 = .ok (.iadd, 1) := by decide +kernel
theorem dX7_ofMeets_171 : decode cX7_ofMeets 171 = .ok (.iaload, 1) := by decide +kernel
theorem dX7_ofMeets_172 : decode cX7_ofMeets 172 = .ok (.aload_n 0, 1) := by decide +kernel
theorem dX7_ofMeets_173 : decode cX7_ofMeets 173 = .ok (.getfield 39, 3) := by decide +kernel
theorem dX7_ofMeets_176 : decode cX7_ofMeets 176 = .ok (.bipush 28, 2) := by decide +kernel
theorem dX7_ofMeets_178 : decode cX7_ofMeets 178 = .ok (.iload_n 1, 1) := by decide +kernel
theorem dX7_ofMeets_179 : decode cX7_ofMeets 179 = .ok (.imul, 1) := by decide +kernel
theorem dX7_ofMeets_180 : decode cX7_ofMeets 180 = .ok (.aload_n 0, 1) := by decide +kernel
theorem dX7_ofMeets_181 : decode cX7_ofMeets 181 = .ok (.getfield 16, 3) := by decide +kernel
theorem dX7_ofMeets_184 : decode cX7_ofMeets 184 = .ok (.iload_n 2, 1) := by decide +kernel
theorem dX7_ofMeets_185 : decode cX7_ofMeets 185 = .ok (.iaload, 1) := by decide +kernel
theorem dX7_ofMeets_186 : decode cX7_ofMeets 186 = .ok (.iadd, 1) := by decide +kernel
theorem dX7_ofMeets_187 : decode cX7_ofMeets 187 = .ok (.iaload, 1) := by decide +kernel
theorem dX7_ofMeets_188 : decode cX7_ofMeets 188 = .ok (.iconst (-1), 1) := by decide +kernel
theorem dX7_ofMeets_189 : decode cX7_ofMeets 189 = .ok (.invokevirtual 134, 3) := by decide +kernel
theorem dX7_ofMeets_192 : decode cX7_ofMeets 192 = .ok (.iinc 2 1, 3) := by decide +kernel
theorem dX7_ofMeets_195 : decode cX7_ofMeets 195 = .ok (.goto (-101), 3) := by decide +kernel
theorem dX7_ofMeets_198 : decode cX7_ofMeets 198 = .ok (.iinc 1 1, 3) := by decide +kernel
theorem dX7_ofMeets_201 : decode cX7_ofMeets 201 = .ok (.goto (-117), 3) := by decide +kernel
theorem dX7_ofMeets_204 : decode cX7_ofMeets 204 = .ok (.return_, 1) := by decide +kernel
theorem dX7_ofAxioms_0 : decode cX7_ofAxioms 0 = .ok (.iconst 0, 1) := by decide +kernel
theorem dX7_ofAxioms_1 : decode cX7_ofAxioms 1 = .ok (.istore_n 1, 1) := by decide +kernel
theorem dX7_ofAxioms_2 : decode cX7_ofAxioms 2 = .ok (.iload_n 1, 1) := by decide +kernel
theorem dX7_ofAxioms_3 : decode cX7_ofAxioms 3 = .ok (.aload_n 0, 1) := by decide +kernel
theorem dX7_ofAxioms_4 : decode cX7_ofAxioms 4 = .ok (.getfield 120, 3) := by decide +kernel
theorem dX7_ofAxioms_7 : decode cX7_ofAxioms 7 = .ok (.if_icmp .ge 87, 3) := by decide +kernel
theorem dX7_ofAxioms_10 : decode cX7_ofAxioms 10 = .ok (.iconst 0, 1) := by decide +kernel
theorem dX7_ofAxioms_11 : decode cX7_ofAxioms 11 = .ok (.istore_n 2, 1) := by decide +kernel
theorem dX7_ofAxioms_12 : decode cX7_ofAxioms 12 = .ok (.iload_n 2, 1) := by decide +kernel
theorem dX7_ofAxioms_13 : decode cX7_ofAxioms 13 = .ok (.aload_n 0, 1) := by decide +kernel
theorem dX7_ofAxioms_14 : decode cX7_ofAxioms 14 = .ok (.getfield 113, 3) := by decide +kernel
theorem dX7_ofAxioms_17 : decode cX7_ofAxioms 17 = .ok (.if_icmp .ge 71, 3) := by decide +kernel
theorem dX7_ofAxioms_20 : decode cX7_ofAxioms 20 = .ok (.aload_n 0, 1) := by decide +kernel
theorem dX7_ofAxioms_21 : decode cX7_ofAxioms 21 = .ok (.iload_n 1, 1) := by decide +kernel
theorem dX7_ofAxioms_22 : decode cX7_ofAxioms 22 = .ok (.iconst 0, 1) := by decide +kernel
theorem dX7_ofAxioms_23 : decode cX7_ofAxioms 23 = .ok (.invokevirtual 123, 3) := by decide +kernel
theorem dX7_ofAxioms_26 : decode cX7_ofAxioms 26 = .ok (.ifCond .ne 62, 3) := by decide +kernel
theorem dX7_ofAxioms_29 : decode cX7_ofAxioms 29 = .ok (.aload_n 0, 1) := by decide +kernel
theorem dX7_ofAxioms_30 : decode cX7_ofAxioms 30 = .ok (.getfield 31, 3) := by decide +kernel
theorem dX7_ofAxioms_33 : decode cX7_ofAxioms 33 = .ok (.iload_n 2, 1) := by decide +kernel
theorem dX7_ofAxioms_34 : decode cX7_ofAxioms 34 = .ok (.baload, 1) := by decide +kernel
theorem dX7_ofAxioms_35 : decode cX7_ofAxioms 35 = .ok (.ifCond .eq 47, 3) := by decide +kernel
theorem dX7_ofAxioms_38 : decode cX7_ofAxioms 38 = .ok (.aload_n 0, 1) := by decide +kernel
theorem dX7_ofAxioms_39 : decode cX7_ofAxioms 39 = .ok (.getfield 19, 3) := by decide +kernel
theorem dX7_ofAxioms_42 : decode cX7_ofAxioms 42 = .ok (.iload_n 2, 1) := by decide +kernel
theorem dX7_ofAxioms_43 : decode cX7_ofAxioms 43 = .ok (.iaload, 1) := by decide +kernel
theorem dX7_ofAxioms_44 : decode cX7_ofAxioms 44 = .ok (.ifCond .ne 38, 3) := by decide +kernel
theorem dX7_ofAxioms_47 : decode cX7_ofAxioms 47 = .ok (.aload_n 0, 1) := by decide +kernel
theorem dX7_ofAxioms_48 : decode cX7_ofAxioms 48 = .ok (.getfield 22, 3) := by decide +kernel
theorem dX7_ofAxioms_51 : decode cX7_ofAxioms 51 = .ok (.iload_n 2, 1) := by decide +kernel
theorem dX7_ofAxioms_52 : decode cX7_ofAxioms 52 = .ok (.iaload, 1) := by decide +kernel
theorem dX7_ofAxioms_53 : decode cX7_ofAxioms 53 = .ok (.aload_n 0, 1) := by decide +kernel
theorem dX7_ofAxioms_54 : decode cX7_ofAxioms 54 = .ok (.iload_n 1, 1) := by decide +kernel
theorem dX7_ofAxioms_55 : decode cX7_ofAxioms 55 = .ok (.iconst 2, 1) := by decide +kernel
theorem dX7_ofAxioms_56 : decode cX7_ofAxioms 56 = .ok (.invokevirtual 123, 3) := by decide +kernel
theorem dX7_ofAxioms_59 : decode cX7_ofAxioms 59 = .ok (.if_icmp .ne 23, 3) := by decide +kernel
theorem dX7_ofAxioms_62 : decode cX7_ofAxioms 62 = .ok (.aload_n 0, 1) := by decide +kernel
theorem dX7_ofAxioms_63 : decode cX7_ofAxioms 63 = .ok (.aload_n 0, 1) := by decide +kernel
theorem dX7_ofAxioms_64 : decode cX7_ofAxioms 64 = .ok (.iload_n 1, 1) := by decide +kernel
theorem dX7_ofAxioms_65 : decode cX7_ofAxioms 65 = .ok (.iconst 1, 1) := by decide +kernel
theorem dX7_ofAxioms_66 : decode cX7_ofAxioms 66 = .ok (.invokevirtual 123, 3) := by decide +kernel
theorem dX7_ofAxioms_69 : decode cX7_ofAxioms 69 = .ok (.aload_n 0, 1) := by decide +kernel
theorem dX7_ofAxioms_70 : decode cX7_ofAxioms 70 = .ok (.getfield 25, 3) := by decide +kernel
theorem dX7_ofAxioms_73 : decode cX7_ofAxioms 73 = .ok (.iload_n 2, 1) := by decide +kernel
theorem dX7_ofAxioms_74 : decode cX7_ofAxioms 74 = .ok (.iaload, 1) := by decide +kernel
theorem dX7_ofAxioms_75 : decode cX7_ofAxioms 75 = .ok (.iconst 4, 1) := by decide +kernel
theorem dX7_ofAxioms_76 : decode cX7_ofAxioms 76 = .ok (.iload_n 1, 1) := by decide +kernel
theorem dX7_ofAxioms_77 : decode cX7_ofAxioms 77 = .ok (.iconst (-1), 1) := by decide +kernel
theorem dX7_ofAxioms_78 : decode cX7_ofAxioms 78 = .ok (.iload_n 2, 1) := by decide +kernel
theorem dX7_ofAxioms_79 : decode cX7_ofAxioms 79 = .ok (.invokevirtual 134, 3) := by decide +kernel
theorem dX7_ofAxioms_82 : decode cX7_ofAxioms 82 = .ok (.iinc 2 1, 3) := by decide +kernel
theorem dX7_ofAxioms_85 : decode cX7_ofAxioms 85 = .ok (.goto (-73), 3) := by decide +kernel
theorem dX7_ofAxioms_88 : decode cX7_ofAxioms 88 = .ok (.iinc 1 1, 3) := by decide +kernel
theorem dX7_ofAxioms_91 : decode cX7_ofAxioms 91 = .ok (.goto (-89), 3) := by decide +kernel
theorem dX7_ofAxioms_94 : decode cX7_ofAxioms 94 = .ok (.return_, 1) := by decide +kernel
theorem dX7_ofRoles_0 : decode cX7_ofRoles 0 = .ok (.iconst 0, 1) := by decide +kernel
theorem dX7_ofRoles_1 : decode cX7_ofRoles 1 = .ok (.istore_n 1, 1) := by decide +kernel
theorem dX7_ofRoles_2 : decode cX7_ofRoles 2 = .ok (.iload_n 1, 1) := by decide +kernel
theorem dX7_ofRoles_3 : decode cX7_ofRoles 3 = .ok (.aload_n 0, 1) := by decide +kernel
theorem dX7_ofRoles_4 : decode cX7_ofRoles 4 = .ok (.getfield 120, 3) := by decide +kernel
theorem dX7_ofRoles_7 : decode cX7_ofRoles 7 = .ok (.if_icmp .ge 61, 3) := by decide +kernel
theorem dX7_ofRoles_10 : decode cX7_ofRoles 10 = .ok (.aload_n 0, 1) := by decide +kernel
theorem dX7_ofRoles_11 : decode cX7_ofRoles 11 = .ok (.iload_n 1, 1) := by decide +kernel
theorem dX7_ofRoles_12 : decode cX7_ofRoles 12 = .ok (.iconst 2, 1) := by decide +kernel
theorem dX7_ofRoles_13 : decode cX7_ofRoles 13 = .ok (.invokevirtual 123, 3) := by decide +kernel
theorem dX7_ofRoles_16 : decode cX7_ofRoles 16 = .ok (.istore_n 2, 1) := by decide +kernel
theorem dX7_ofRoles_17 : decode cX7_ofRoles 17 = .ok (.aload_n 0, 1) := by decide +kernel
theorem dX7_ofRoles_18 : decode cX7_ofRoles 18 = .ok (.iload_n 1, 1) := by decide +kernel
theorem dX7_ofRoles_19 : decode cX7_ofRoles 19 = .ok (.iconst 0, 1) := by decide +kernel
theorem dX7_ofRoles_20 : decode cX7_ofRoles 20 = .ok (.invokevirtual 123, 3) := by decide +kernel
theorem dX7_ofRoles_23 : decode cX7_ofRoles 23 = .ok (.ifCond .ne 39, 3) := by decide +kernel
theorem dX7_ofRoles_26 : decode cX7_ofRoles 26 = .ok (.aload_n 0, 1) := by decide +kernel
theorem dX7_ofRoles_27 : decode cX7_ofRoles 27 = .ok (.getfield 7, 3) := by decide +kernel
theorem dX7_ofRoles_30 : decode cX7_ofRoles 30 = .ok (.iload_n 2, 1) := by decide +kernel
theorem dX7_ofRoles_31 : decode cX7_ofRoles 31 = .ok (.iaload, 1) := by decide +kernel
theorem dX7_ofRoles_32 : decode cX7_ofRoles 32 = .ok (.iconst 4, 1) := by decide +kernel
theorem dX7_ofRoles_33 : decode cX7_ofRoles 33 = .ok (.if_icmp .ne 29, 3) := by decide +kernel
theorem dX7_ofRoles_36 : decode cX7_ofRoles 36 = .ok (.aload_n 0, 1) := by decide +kernel
theorem dX7_ofRoles_37 : decode cX7_ofRoles 37 = .ok (.aload_n 0, 1) := by decide +kernel
theorem dX7_ofRoles_38 : decode cX7_ofRoles 38 = .ok (.iload_n 1, 1) := by decide +kernel
theorem dX7_ofRoles_39 : decode cX7_ofRoles 39 = .ok (.iconst 1, 1) := by decide +kernel
theorem dX7_ofRoles_40 : decode cX7_ofRoles 40 = .ok (.invokevirtual 123, 3) := by decide +kernel
theorem dX7_ofRoles_43 : decode cX7_ofRoles 43 = .ok (.aload_n 0, 1) := by decide +kernel
theorem dX7_ofRoles_44 : decode cX7_ofRoles 44 = .ok (.getfield 13, 3) := by decide +kernel
theorem dX7_ofRoles_47 : decode cX7_ofRoles 47 = .ok (.iload_n 2, 1) := by decide +kernel
theorem dX7_ofRoles_48 : decode cX7_ofRoles 48 = .ok (.iaload, 1) := by decide +kernel
theorem dX7_ofRoles_49 : decode cX7_ofRoles 49 = .ok (.aload_n 0, 1) := by decide +kernel
theorem dX7_ofRoles_50 : decode cX7_ofRoles 50 = .ok (.getfield 16, 3) := by decide +kernel
theorem dX7_ofRoles_53 : decode cX7_ofRoles 53 = .ok (.iload_n 2, 1) := by decide +kernel
theorem dX7_ofRoles_54 : decode cX7_ofRoles 54 = .ok (.iaload, 1) := by decide +kernel
theorem dX7_ofRoles_55 : decode cX7_ofRoles 55 = .ok (.iconst 5, 1) := by decide +kernel
theorem dX7_ofRoles_56 : decode cX7_ofRoles 56 = .ok (.iload_n 1, 1) := by decide +kernel
theorem dX7_ofRoles_57 : decode cX7_ofRoles 57 = .ok (.iconst (-1), 1) := by decide +kernel
theorem dX7_ofRoles_58 : decode cX7_ofRoles 58 = .ok (.iconst (-1), 1) := by decide +kernel
theorem dX7_ofRoles_59 : decode cX7_ofRoles 59 = .ok (.invokevirtual 138, 3) := by decide +kernel
theorem dX7_ofRoles_62 : decode cX7_ofRoles 62 = .ok (.iinc 1 1, 3) := by decide +kernel
theorem dX7_ofRoles_65 : decode cX7_ofRoles 65 = .ok (.goto (-63), 3) := by decide +kernel
theorem dX7_ofRoles_68 : decode cX7_ofRoles 68 = .ok (.iconst 0, 1) := by decide +kernel
theorem dX7_ofRoles_69 : decode cX7_ofRoles 69 = .ok (.istore_n 1, 1) := by decide +kernel
theorem dX7_ofRoles_70 : decode cX7_ofRoles 70 = .ok (.iload_n 1, 1) := by decide +kernel
theorem dX7_ofRoles_71 : decode cX7_ofRoles 71 = .ok (.aload_n 0, 1) := by decide +kernel
theorem dX7_ofRoles_72 : decode cX7_ofRoles 72 = .ok (.getfield 120, 3) := by decide +kernel
theorem dX7_ofRoles_75 : decode cX7_ofRoles 75 = .ok (.if_icmp .ge 126, 3) := by decide +kernel
theorem dX7_ofRoles_78 : decode cX7_ofRoles 78 = .ok (.aload_n 0, 1) := by decide +kernel
theorem dX7_ofRoles_79 : decode cX7_ofRoles 79 = .ok (.iload_n 1, 1) := by decide +kernel
theorem dX7_ofRoles_80 : decode cX7_ofRoles 80 = .ok (.iconst 0, 1) := by decide +kernel
theorem dX7_ofRoles_81 : decode cX7_ofRoles 81 = .ok (.invokevirtual 123, 3) := by decide +kernel
theorem dX7_ofRoles_84 : decode cX7_ofRoles 84 = .ok (.iconst 1, 1) := by decide +kernel
theorem dX7_ofRoles_85 : decode cX7_ofRoles 85 = .ok (.if_icmp .ne 110, 3) := by decide +kernel
theorem dX7_ofRoles_88 : decode cX7_ofRoles 88 = .ok (.aload_n 0, 1) := by decide +kernel
theorem dX7_ofRoles_89 : decode cX7_ofRoles 89 = .ok (.iload_n 1, 1) := by decide +kernel
theorem dX7_ofRoles_90 : decode cX7_ofRoles 90 = .ok (.iconst 2, 1) := by decide +kernel
theorem dX7_ofRoles_91 : decode cX7_ofRoles 91 = .ok (.invokevirtual 123, 3) := by decide +kernel
theorem dX7_ofRoles_94 : decode cX7_ofRoles 94 = .ok (.istore_n 2, 1) := by decide +kernel
theorem dX7_ofRoles_95 : decode cX7_ofRoles 95 = .ok (.iconst 0, 1) := by decide +kernel
theorem dX7_ofRoles_96 : decode cX7_ofRoles 96 = .ok (.istore_n 3, 1) := by decide +kernel
theorem dX7_ofRoles_97 : decode cX7_ofRoles 97 = .ok (.iload_n 3, 1) := by decide +kernel
theorem dX7_ofRoles_98 : decode cX7_ofRoles 98 = .ok (.aload_n 0, 1) := by decide +kernel
theorem dX7_ofRoles_99 : decode cX7_ofRoles 99 = .ok (.getfield 84, 3) := by decide +kernel
theorem dX7_ofRoles_102 : decode cX7_ofRoles 102 = .ok (.if_icmp .ge 93, 3) := by decide +kernel
theorem dX7_ofRoles_105 : decode cX7_ofRoles 105 = .ok (.aload_n 0, 1) := by decide +kernel
theorem dX7_ofRoles_106 : decode cX7_ofRoles 106 = .ok (.getfield 7, 3) := by decide +kernel
theorem dX7_ofRoles_109 : decode cX7_ofRoles 109 = .ok (.iload_n 3, 1) := by decide +kernel
theorem dX7_ofRoles_110 : decode cX7_ofRoles 110 = .ok (.iaload, 1) := by decide +kernel
theorem dX7_ofRoles_111 : decode cX7_ofRoles 111 = .ok (.iconst 4, 1) := by decide +kernel
theorem dX7_ofRoles_112 : decode cX7_ofRoles 112 = .ok (.if_icmp .ne 77, 3) := by decide +kernel
theorem dX7_ofRoles_115 : decode cX7_ofRoles 115 = .ok (.aload_n 0, 1) := by decide +kernel
theorem dX7_ofRoles_116 : decode cX7_ofRoles 116 = .ok (.getfield 69, 3) := by decide +kernel
theorem dX7_ofRoles_119 : decode cX7_ofRoles 119 = .ok (.iconst 4, 1) := by decide +kernel
theorem dX7_ofRoles_120 : decode cX7_ofRoles 120 = .ok (.aload_n 0, 1) := by decide +kernel
theorem dX7_ofRoles_121 : decode cX7_ofRoles 121 = .ok (.iload_n 1, 1) := by decide +kernel
theorem dX7_ofRoles_122 : decode cX7_ofRoles 122 = .ok (.iconst 3, 1) := by decide +kernel
theorem dX7_ofRoles_123 : decode cX7_ofRoles 123 = .ok (.invokevirtual 123, 3) := by decide +kernel
theorem dX7_ofRoles_126 : decode cX7_ofRoles 126 = .ok (.imul, 1) := by decide +kernel
theorem dX7_ofRoles_127 : decode cX7_ofRoles 127 = .ok (.aload_n 0, 1) := by decide +kernel
theorem dX7_ofRoles_128 : decode cX7_ofRoles 128 = .ok (.getfield 13, 3) := by decide +kernel
theorem dX7_ofRoles_131 : decode cX7_ofRoles 131 = .ok (.iload_n 3, 1) := by decide +kernel
theorem dX7_ofRoles_132 : decode cX7_ofRoles 132 = .ok (.iaload, 1) := by decide +kernel
theorem dX7_ofRoles_133 : decode cX7_ofRoles 133 = .ok (.iadd, 1) := by decide +kernel
theorem dX7_ofRoles_134 : decode cX7_ofRoles 134 = .ok (.baload, 1) := by decide +kernel
theorem dX7_ofRoles_135 : decode cX7_ofRoles 135 = .ok (.ifCond .eq 54, 3) := by decide +kernel
theorem dX7_ofRoles_138 : decode cX7_ofRoles 138 = .ok (.aload_n 0, 1) := by decide +kernel
theorem dX7_ofRoles_139 : decode cX7_ofRoles 139 = .ok (.getfield 39, 3) := by decide +kernel
theorem dX7_ofRoles_142 : decode cX7_ofRoles 142 = .ok (.bipush 28, 2) := by decide +kernel
theorem dX7_ofRoles_144 : decode cX7_ofRoles 144 = .ok (.iload_n 2, 1) := by decide +kernel
theorem dX7_ofRoles_145 : decode cX7_ofRoles 145 = .ok (.imul, 1) := by decide +kernel
theorem dX7_ofRoles_146 : decode cX7_ofRoles 146 = .ok (.aload_n 0, 1) := by decide +kernel
theorem dX7_ofRoles_147 : decode cX7_ofRoles 147 = .ok (.getfield 16, 3) := by decide +kernel
theorem dX7_ofRoles_150 : decode cX7_ofRoles 150 = .ok (.iload_n 3, 1) := by decide +kernel
theorem dX7_ofRoles_151 : decode cX7_ofRoles 151 = .ok (.iaload, 1) := by decide +kernel
theorem dX7_ofRoles_152 : decode cX7_ofRoles 152 = .ok (.iadd, 1) := by decide +kernel
theorem dX7_ofRoles_153 : decode cX7_ofRoles 153 = .ok (.iaload, 1) := by decide +kernel
theorem dX7_ofRoles_154 : decode cX7_ofRoles 154 = .ok (.iconst (-1), 1) := by decide +kernel
theorem dX7_ofRoles_155 : decode cX7_ofRoles 155 = .ok (.if_icmp .eq 34, 3) := by decide +kernel
theorem dX7_ofRoles_158 : decode cX7_ofRoles 158 = .ok (.aload_n 0, 1) := by decide +kernel
theorem dX7_ofRoles_159 : decode cX7_ofRoles 159 = .ok (.aload_n 0, 1) := by decide +kernel
theorem dX7_ofRoles_160 : decode cX7_ofRoles 160 = .ok (.iload_n 1, 1) := by decide +kernel
theorem dX7_ofRoles_161 : decode cX7_ofRoles 161 = .ok (.iconst 1, 1) := by decide +kernel
theorem dX7_ofRoles_162 : decode cX7_ofRoles 162 = .ok (.invokevirtual 123, 3) := by decide +kernel
theorem dX7_ofRoles_165 : decode cX7_ofRoles 165 = .ok (.iload_n 3, 1) := by decide +kernel
theorem dX7_ofRoles_166 : decode cX7_ofRoles 166 = .ok (.bipush 6, 2) := by decide +kernel
theorem dX7_ofRoles_168 : decode cX7_ofRoles 168 = .ok (.iload_n 1, 1) := by decide +kernel
theorem dX7_ofRoles_169 : decode cX7_ofRoles 169 = .ok (.aload_n 0, 1) := by decide +kernel
theorem dX7_ofRoles_170 : decode cX7_ofRoles 170 = .ok (.getfield 39, 3) := by decide +kernel
theorem dX7_ofRoles_173 : decode cX7_ofRoles 173 = .ok (.bipush 28, 2) := by decide +kernel
theorem dX7_ofRoles_175 : decode cX7_ofRoles 175 = .ok (.iload_n 2, 1) := by decide +kernel
theorem dX7_ofRoles_176 : decode cX7_ofRoles 176 = .ok (.imul, 1) := by decide +kernel
theorem dX7_ofRoles_177 : decode cX7_ofRoles 177 = .ok (.aload_n 0, 1) := by decide +kernel
theorem dX7_ofRoles_178 : decode cX7_ofRoles 178 = .ok (.getfield 16, 3) := by decide +kernel
theorem dX7_ofRoles_181 : decode cX7_ofRoles 181 = .ok (.iload_n 3, 1) := by decide +kernel
theorem dX7_ofRoles_182 : decode cX7_ofRoles 182 = .ok (.iaload, 1) := by decide +kernel
theorem dX7_ofRoles_183 : decode cX7_ofRoles 183 = .ok (.iadd, 1) := by decide +kernel
theorem dX7_ofRoles_184 : decode cX7_ofRoles 184 = .ok (.iaload, 1) := by decide +kernel
theorem dX7_ofRoles_185 : decode cX7_ofRoles 185 = .ok (.iconst (-1), 1) := by decide +kernel
theorem dX7_ofRoles_186 : decode cX7_ofRoles 186 = .ok (.invokevirtual 134, 3) := by decide +kernel
theorem dX7_ofRoles_189 : decode cX7_ofRoles 189 = .ok (.iinc 3 1, 3) := by decide +kernel
theorem dX7_ofRoles_192 : decode cX7_ofRoles 192 = .ok (.goto (-95), 3) := by decide +kernel
theorem dX7_ofRoles_195 : decode cX7_ofRoles 195 = .ok (.iinc 1 1, 3) := by decide +kernel
theorem dX7_ofRoles_198 : decode cX7_ofRoles 198 = .ok (.goto (-128), 3) := by decide +kernel
theorem dX7_ofRoles_201 : decode cX7_ofRoles 201 = .ok (.iconst 0, 1) := by decide +kernel
theorem dX7_ofRoles_202 : decode cX7_ofRoles 202 = .ok (.istore_n 1, 1) := by decide +kernel
theorem dX7_ofRoles_203 : decode cX7_ofRoles 203 = .ok (.iload_n 1, 1) := by decide +kernel
theorem dX7_ofRoles_204 : decode cX7_ofRoles 204 = .ok (.aload_n 0, 1) := by decide +kernel
theorem dX7_ofRoles_205 : decode cX7_ofRoles 205 = .ok (.getfield 120, 3) := by decide +kernel
theorem dX7_ofRoles_208 : decode cX7_ofRoles 208 = .ok (.if_icmp .ge 70, 3) := by decide +kernel
theorem dX7_ofRoles_211 : decode cX7_ofRoles 211 = .ok (.aload_n 0, 1) := by decide +kernel
theorem dX7_ofRoles_212 : decode cX7_ofRoles 212 = .ok (.iload_n 1, 1) := by decide +kernel
theorem dX7_ofRoles_213 : decode cX7_ofRoles 213 = .ok (.iconst 0, 1) := by decide +kernel
theorem dX7_ofRoles_214 : decode cX7_ofRoles 214 = .ok (.invokevirtual 123, 3) := by decide +kernel
theorem dX7_ofRoles_217 : decode cX7_ofRoles 217 = .ok (.iconst 1, 1) := by decide +kernel
theorem dX7_ofRoles_218 : decode cX7_ofRoles 218 = .ok (.if_icmp .ne 54, 3) := by decide +kernel
theorem dX7_ofRoles_221 : decode cX7_ofRoles 221 = .ok (.aload_n 0, 1) := by decide +kernel
theorem dX7_ofRoles_222 : decode cX7_ofRoles 222 = .ok (.getfield 39, 3) := by decide +kernel
theorem dX7_ofRoles_225 : decode cX7_ofRoles 225 = .ok (.bipush 28, 2) := by decide +kernel
theorem dX7_ofRoles_227 : decode cX7_ofRoles 227 = .ok (.aload_n 0, 1) := by decide +kernel
theorem dX7_ofRoles_228 : decode cX7_ofRoles 228 = .ok (.iload_n 1, 1) := by decide +kernel
theorem dX7_ofRoles_229 : decode cX7_ofRoles 229 = .ok (.iconst 2, 1) := by decide +kernel
theorem dX7_ofRoles_230 : decode cX7_ofRoles 230 = .ok (.invokevirtual 123, 3) := by decide +kernel
theorem dX7_ofRoles_233 : decode cX7_ofRoles 233 = .ok (.imul, 1) := by decide +kernel
theorem dX7_ofRoles_234 : decode cX7_ofRoles 234 = .ok (.iconst 1, 1) := by decide +kernel
theorem dX7_ofRoles_235 : decode cX7_ofRoles 235 = .ok (.iadd, 1) := by decide +kernel
theorem dX7_ofRoles_236 : decode cX7_ofRoles 236 = .ok (.iaload, 1) := by decide +kernel
theorem dX7_ofRoles_237 : decode cX7_ofRoles 237 = .ok (.iconst (-1), 1) := by decide +kernel
theorem dX7_ofRoles_238 : decode cX7_ofRoles 238 = .ok (.if_icmp .eq 34, 3) := by decide +kernel
theorem dX7_ofRoles_241 : decode cX7_ofRoles 241 = .ok (.aload_n 0, 1) := by decide +kernel
theorem dX7_ofRoles_242 : decode cX7_ofRoles 242 = .ok (.aload_n 0, 1) := by decide +kernel
theorem dX7_ofRoles_243 : decode cX7_ofRoles 243 = .ok (.iload_n 1, 1) := by decide +kernel
theorem dX7_ofRoles_244 : decode cX7_ofRoles 244 = .ok (.iconst 1, 1) := by decide +kernel
theorem dX7_ofRoles_245 : decode cX7_ofRoles 245 = .ok (.invokevirtual 123, 3) := by decide +kernel
theorem dX7_ofRoles_248 : decode cX7_ofRoles 248 = .ok (.iconst 1, 1) := by decide +kernel
theorem dX7_ofRoles_249 : decode cX7_ofRoles 249 = .ok (.bipush 7, 2) := by decide +kernel
theorem dX7_ofRoles_251 : decode cX7_ofRoles 251 = .ok (.iload_n 1, 1) := by decide +kernel
theorem dX7_ofRoles_252 : decode cX7_ofRoles 252 = .ok (.aload_n 0, 1) := by decide +kernel
theorem dX7_ofRoles_253 : decode cX7_ofRoles 253 = .ok (.getfield 39, 3) := by decide +kernel
theorem dX7_ofRoles_256 : decode cX7_ofRoles 256 = .ok (.bipush 28, 2) := by decide +kernel
theorem dX7_ofRoles_258 : decode cX7_ofRoles 258 = .ok (.aload_n 0, 1) := by decide +kernel
theorem dX7_ofRoles_259 : decode cX7_ofRoles 259 = .ok (.iload_n 1, 1) := by decide +kernel
theorem dX7_ofRoles_260 : decode cX7_ofRoles 260 = .ok (.iconst 2, 1) := by decide +kernel
theorem dX7_ofRoles_261 : decode cX7_ofRoles 261 = .ok (.invokevirtual 123, 3) := by decide +kernel
theorem dX7_ofRoles_264 : decode cX7_ofRoles 264 = .ok (.imul, 1) := by decide +kernel
theorem dX7_ofRoles_265 : decode cX7_ofRoles 265 = .ok (.iconst 1, 1) := by decide +kernel
theorem dX7_ofRoles_266 : decode cX7_ofRoles 266 = .ok (.iadd, 1) := by decide +kernel
theorem dX7_ofRoles_267 : decode cX7_ofRoles 267 = .ok (.iaload, 1) := by decide +kernel
theorem dX7_ofRoles_268 : decode cX7_ofRoles 268 = .ok (.iconst (-1), 1) := by decide +kernel
theorem dX7_ofRoles_269 : decode cX7_ofRoles 269 = .ok (.invokevirtual 134, 3) := by decide +kernel
theorem dX7_ofRoles_272 : decode cX7_ofRoles 272 = .ok (.iinc 1 1, 3) := by decide +kernel
theorem dX7_ofRoles_275 : decode cX7_ofRoles 275 = .ok (.goto (-72), 3) := by decide +kernel
theorem dX7_ofRoles_278 : decode cX7_ofRoles 278 = .ok (.return_, 1) := by decide +kernel
theorem dX7_ofChains_0 : decode cX7_ofChains 0 = .ok (.iconst 0, 1) := by decide +kernel
theorem dX7_ofChains_1 : decode cX7_ofChains 1 = .ok (.istore_n 1, 1) := by decide +kernel
theorem dX7_ofChains_2 : decode cX7_ofChains 2 = .ok (.iload_n 1, 1) := by decide +kernel
theorem dX7_ofChains_3 : decode cX7_ofChains 3 = .ok (.aload_n 0, 1) := by decide +kernel
theorem dX7_ofChains_4 : decode cX7_ofChains 4 = .ok (.getfield 120, 3) := by decide +kernel
theorem dX7_ofChains_7 : decode cX7_ofChains 7 = .ok (.if_icmp .ge 168, 3) := by decide +kernel
theorem dX7_ofChains_10 : decode cX7_ofChains 10 = .ok (.iconst 0, 1) := by decide +kernel
theorem dX7_ofChains_11 : decode cX7_ofChains 11 = .ok (.istore_n 2, 1) := by decide +kernel
theorem dX7_ofChains_12 : decode cX7_ofChains 12 = .ok (.iload_n 2, 1) := by decide +kernel
theorem dX7_ofChains_13 : decode cX7_ofChains 13 = .ok (.aload_n 0, 1) := by decide +kernel
theorem dX7_ofChains_14 : decode cX7_ofChains 14 = .ok (.getfield 120, 3) := by decide +kernel
theorem dX7_ofChains_17 : decode cX7_ofChains 17 = .ok (.if_icmp .ge 152, 3) := by decide +kernel
theorem dX7_ofChains_20 : decode cX7_ofChains 20 = .ok (.aload_n 0, 1) := by decide +kernel
theorem dX7_ofChains_21 : decode cX7_ofChains 21 = .ok (.iload_n 1, 1) := by decide +kernel
theorem dX7_ofChains_22 : decode cX7_ofChains 22 = .ok (.iconst 0, 1) := by decide +kernel
theorem dX7_ofChains_23 : decode cX7_ofChains 23 = .ok (.invokevirtual 123, 3) := by decide +kernel
theorem dX7_ofChains_26 : decode cX7_ofChains 26 = .ok (.iconst 1, 1) := by decide +kernel
theorem dX7_ofChains_27 : decode cX7_ofChains 27 = .ok (.if_icmp .ne 142, 3) := by decide +kernel
theorem dX7_ofChains_30 : decode cX7_ofChains 30 = .ok (.aload_n 0, 1) := by decide +kernel
theorem dX7_ofChains_31 : decode cX7_ofChains 31 = .ok (.iload_n 2, 1) := by decide +kernel
theorem dX7_ofChains_32 : decode cX7_ofChains 32 = .ok (.iconst 0, 1) := by decide +kernel
theorem dX7_ofChains_33 : decode cX7_ofChains 33 = .ok (.invokevirtual 123, 3) := by decide +kernel
theorem dX7_ofChains_36 : decode cX7_ofChains 36 = .ok (.iconst 1, 1) := by decide +kernel
theorem dX7_ofChains_37 : decode cX7_ofChains 37 = .ok (.if_icmp .ne 126, 3) := by decide +kernel
theorem dX7_ofChains_40 : decode cX7_ofChains 40 = .ok (.aload_n 0, 1) := by decide +kernel
theorem dX7_ofChains_41 : decode cX7_ofChains 41 = .ok (.iload_n 2, 1) := by decide +kernel
theorem dX7_ofChains_42 : decode cX7_ofChains 42 = .ok (.iconst 1, 1) := by decide +kernel
theorem dX7_ofChains_43 : decode cX7_ofChains 43 = .ok (.invokevirtual 123, 3) := by decide +kernel
theorem dX7_ofChains_46 : decode cX7_ofChains 46 = .ok (.aload_n 0, 1) := by decide +kernel
theorem dX7_ofChains_47 : decode cX7_ofChains 47 = .ok (.iload_n 1, 1) := by decide +kernel
theorem dX7_ofChains_48 : decode cX7_ofChains 48 = .ok (.iconst 2, 1) := by decide +kernel
theorem dX7_ofChains_49 : decode cX7_ofChains 49 = .ok (.invokevirtual 123, 3) := by decide +kernel
theorem dX7_ofChains_52 : decode cX7_ofChains 52 = .ok (.if_icmp .ne 111, 3) := by decide +kernel
theorem dX7_ofChains_55 : decode cX7_ofChains 55 = .ok (.iconst 0, 1) := by decide +kernel
theorem dX7_ofChains_56 : decode cX7_ofChains 56 = .ok (.istore_n 3, 1) := by decide +kernel
theorem dX7_ofChains_57 : decode cX7_ofChains 57 = .ok (.iload_n 3, 1) := by decide +kernel
theorem dX7_ofChains_58 : decode cX7_ofChains 58 = .ok (.aload_n 0, 1) := by decide +kernel
theorem dX7_ofChains_59 : decode cX7_ofChains 59 = .ok (.getfield 113, 3) := by decide +kernel
theorem dX7_ofChains_62 : decode cX7_ofChains 62 = .ok (.if_icmp .ge 101, 3) := by decide +kernel
theorem dX7_ofChains_65 : decode cX7_ofChains 65 = .ok (.aload_n 0, 1) := by decide +kernel
theorem dX7_ofChains_66 : decode cX7_ofChains 66 = .ok (.getfield 31, 3) := by decide +kernel
theorem dX7_ofChains_69 : decode cX7_ofChains 69 = .ok (.iload_n 3, 1) := by decide +kernel
theorem dX7_ofChains_70 : decode cX7_ofChains 70 = .ok (.baload, 1) := by decide +kernel
theorem dX7_ofChains_71 : decode cX7_ofChains 71 = .ok (.ifCond .eq 86, 3) := by decide +kernel
theorem dX7_ofChains_74 : decode cX7_ofChains 74 = .ok (.aload_n 0, 1) := by decide +kernel
theorem dX7_ofChains_75 : decode cX7_ofChains 75 = .ok (.getfield 19, 3) := by decide +kernel
theorem dX7_ofChains_78 : decode cX7_ofChains 78 = .ok (.iload_n 3, 1) := by decide +kernel
theorem dX7_ofChains_79 : decode cX7_ofChains 79 = .ok (.iaload, 1) := by decide +kernel
theorem dX7_ofChains_80 : decode cX7_ofChains 80 = .ok (.iconst 2, 1) := by decide +kernel
theorem dX7_ofChains_81 : decode cX7_ofChains 81 = .ok (.if_icmp .ne 76, 3) := by decide +kernel
theorem dX7_ofChains_84 : decode cX7_ofChains 84 = .ok (.aload_n 0, 1) := by decide +kernel
theorem dX7_ofChains_85 : decode cX7_ofChains 85 = .ok (.getfield 69, 3) := by decide +kernel
theorem dX7_ofChains_88 : decode cX7_ofChains 88 = .ok (.iconst 4, 1) := by decide +kernel
theorem dX7_ofChains_89 : decode cX7_ofChains 89 = .ok (.aload_n 0, 1) := by decide +kernel
theorem dX7_ofChains_90 : decode cX7_ofChains 90 = .ok (.iload_n 1, 1) := by decide +kernel
theorem dX7_ofChains_91 : decode cX7_ofChains 91 = .ok (.iconst 3, 1) := by decide +kernel
theorem dX7_ofChains_92 : decode cX7_ofChains 92 = .ok (.invokevirtual 123, 3) := by decide +kernel
theorem dX7_ofChains_95 : decode cX7_ofChains 95 = .ok (.imul, 1) := by decide +kernel
theorem dX7_ofChains_96 : decode cX7_ofChains 96 = .ok (.aload_n 0, 1) := by decide +kernel
theorem dX7_ofChains_97 : decode cX7_ofChains 97 = .ok (.getfield 22, 3) := by decide +kernel
theorem dX7_ofChains_100 : decode cX7_ofChains 100 = .ok (.iload_n 3, 1) := by decide +kernel
theorem dX7_ofChains_101 : decode cX7_ofChains 101 = .ok (.iaload, 1) := by decide +kernel
theorem dX7_ofChains_102 : decode cX7_ofChains 102 = .ok (.iadd, 1) := by decide +kernel
theorem dX7_ofChains_103 : decode cX7_ofChains 103 = .ok (.baload, 1) := by decide +kernel
theorem dX7_ofChains_104 : decode cX7_ofChains 104 = .ok (.ifCond .eq 53, 3) := by decide +kernel
theorem dX7_ofChains_107 : decode cX7_ofChains 107 = .ok (.aload_n 0, 1) := by decide +kernel
theorem dX7_ofChains_108 : decode cX7_ofChains 108 = .ok (.getfield 69, 3) := by decide +kernel
theorem dX7_ofChains_111 : decode cX7_ofChains 111 = .ok (.iconst 4, 1) := by decide +kernel
theorem dX7_ofChains_112 : decode cX7_ofChains 112 = .ok (.aload_n 0, 1) := by decide +kernel
theorem dX7_ofChains_113 : decode cX7_ofChains 113 = .ok (.iload_n 2, 1) := by decide +kernel
theorem dX7_ofChains_114 : decode cX7_ofChains 114 = .ok (.iconst 3, 1) := by decide +kernel
theorem dX7_ofChains_115 : decode cX7_ofChains 115 = .ok (.invokevirtual 123, 3) := by decide +kernel
theorem dX7_ofChains_118 : decode cX7_ofChains 118 = .ok (.imul, 1) := by decide +kernel
theorem dX7_ofChains_119 : decode cX7_ofChains 119 = .ok (.aload_n 0, 1) := by decide +kernel
theorem dX7_ofChains_120 : decode cX7_ofChains 120 = .ok (.getfield 25, 3) := by decide +kernel
theorem dX7_ofChains_123 : decode cX7_ofChains 123 = .ok (.iload_n 3, 1) := by decide +kernel
theorem dX7_ofChains_124 : decode cX7_ofChains 124 = .ok (.iaload, 1) := by decide +kernel
theorem dX7_ofChains_125 : decode cX7_ofChains 125 = .ok (.iadd, 1) := by decide +kernel
theorem dX7_ofChains_126 : decode cX7_ofChains 126 = .ok (.baload, 1) := by decide +kernel
theorem dX7_ofChains_127 : decode cX7_ofChains 127 = .ok (.ifCond .eq 30, 3) := by decide +kernel
theorem dX7_ofChains_130 : decode cX7_ofChains 130 = .ok (.aload_n 0, 1) := by decide +kernel
theorem dX7_ofChains_131 : decode cX7_ofChains 131 = .ok (.aload_n 0, 1) := by decide +kernel
theorem dX7_ofChains_132 : decode cX7_ofChains 132 = .ok (.iload_n 1, 1) := by decide +kernel
theorem dX7_ofChains_133 : decode cX7_ofChains 133 = .ok (.iconst 1, 1) := by decide +kernel
theorem dX7_ofChains_134 : decode cX7_ofChains 134 = .ok (.invokevirtual 123, 3) := by decide +kernel
theorem dX7_ofChains_137 : decode cX7_ofChains 137 = .ok (.aload_n 0, 1) := by decide +kernel
theorem dX7_ofChains_138 : decode cX7_ofChains 138 = .ok (.getfield 28, 3) := by decide +kernel
theorem dX7_ofChains_141 : decode cX7_ofChains 141 = .ok (.iload_n 3, 1) := by decide +kernel
theorem dX7_ofChains_142 : decode cX7_ofChains 142 = .ok (.iaload, 1) := by decide +kernel
theorem dX7_ofChains_143 : decode cX7_ofChains 143 = .ok (.aload_n 0, 1) := by decide +kernel
theorem dX7_ofChains_144 : decode cX7_ofChains 144 = .ok (.iload_n 2, 1) := by decide +kernel
theorem dX7_ofChains_145 : decode cX7_ofChains 145 = .ok (.iconst 2, 1) := by decide +kernel
theorem dX7_ofChains_146 : decode cX7_ofChains 146 = .ok (.invokevirtual 123, 3) := by decide +kernel
theorem dX7_ofChains_149 : decode cX7_ofChains 149 = .ok (.bipush 8, 2) := by decide +kernel
theorem dX7_ofChains_151 : decode cX7_ofChains 151 = .ok (.iload_n 1, 1) := by decide +kernel
theorem dX7_ofChains_152 : decode cX7_ofChains 152 = .ok (.iload_n 2, 1) := by decide +kernel
theorem dX7_ofChains_153 : decode cX7_ofChains 153 = .ok (.iload_n 3, 1) := by decide +kernel
theorem dX7_ofChains_154 : decode cX7_ofChains 154 = .ok (.invokevirtual 138, 3) := by decide +kernel
theorem dX7_ofChains_157 : decode cX7_ofChains 157 = .ok (.iinc 3 1, 3) := by decide +kernel
theorem dX7_ofChains_160 : decode cX7_ofChains 160 = .ok (.goto (-103), 3) := by decide +kernel
theorem dX7_ofChains_163 : decode cX7_ofChains 163 = .ok (.iinc 2 1, 3) := by decide +kernel
theorem dX7_ofChains_166 : decode cX7_ofChains 166 = .ok (.goto (-154), 3) := by decide +kernel
theorem dX7_ofChains_169 : decode cX7_ofChains 169 = .ok (.iinc 1 1, 3) := by decide +kernel
theorem dX7_ofChains_172 : decode cX7_ofChains 172 = .ok (.goto (-170), 3) := by decide +kernel
theorem dX7_ofChains_175 : decode cX7_ofChains 175 = .ok (.return_, 1) := by decide +kernel
theorem dX7_lay_0 : decode cX7_lay 0 = .ok (.bipush 9, 2) := by decide +kernel
theorem dX7_lay_2 : decode cX7_lay 2 = .ok (.aload_n 0, 1) := by decide +kernel
theorem dX7_lay_3 : decode cX7_lay 3 = .ok (.getfield 142, 3) := by decide +kernel
theorem dX7_lay_6 : decode cX7_lay 6 = .ok (.imul, 1) := by decide +kernel
theorem dX7_lay_7 : decode cX7_lay 7 = .ok (.istore 9, 2) := by decide +kernel
theorem dX7_lay_9 : decode cX7_lay 9 = .ok (.aload_n 0, 1) := by decide +kernel
theorem dX7_lay_10 : decode cX7_lay 10 = .ok (.getfield 36, 3) := by decide +kernel
theorem dX7_lay_13 : decode cX7_lay 13 = .ok (.iload 9, 2) := by decide +kernel
theorem dX7_lay_15 : decode cX7_lay 15 = .ok (.iload_n 1, 1) := by decide +kernel
theorem dX7_lay_16 : decode cX7_lay 16 = .ok (.iastore, 1) := by decide +kernel
theorem dX7_lay_17 : decode cX7_lay 17 = .ok (.aload_n 0, 1) := by decide +kernel
theorem dX7_lay_18 : decode cX7_lay 18 = .ok (.getfield 36, 3) := by decide +kernel
theorem dX7_lay_21 : decode cX7_lay 21 = .ok (.iload 9, 2) := by decide +kernel
theorem dX7_lay_23 : decode cX7_lay 23 = .ok (.iconst 1, 1) := by decide +kernel
theorem dX7_lay_24 : decode cX7_lay 24 = .ok (.iadd, 1) := by decide +kernel
theorem dX7_lay_25 : decode cX7_lay 25 = .ok (.iload_n 2, 1) := by decide +kernel
theorem dX7_lay_26 : decode cX7_lay 26 = .ok (.iastore, 1) := by decide +kernel
theorem dX7_lay_27 : decode cX7_lay 27 = .ok (.aload_n 0, 1) := by decide +kernel
theorem dX7_lay_28 : decode cX7_lay 28 = .ok (.getfield 36, 3) := by decide +kernel
theorem dX7_lay_31 : decode cX7_lay 31 = .ok (.iload 9, 2) := by decide +kernel
theorem dX7_lay_33 : decode cX7_lay 33 = .ok (.iconst 2, 1) := by decide +kernel
theorem dX7_lay_34 : decode cX7_lay 34 = .ok (.iadd, 1) := by decide +kernel
theorem dX7_lay_35 : decode cX7_lay 35 = .ok (.iload_n 3, 1) := by decide +kernel
theorem dX7_lay_36 : decode cX7_lay 36 = .ok (.iastore, 1) := by decide +kernel
theorem dX7_lay_37 : decode cX7_lay 37 = .ok (.aload_n 0, 1) := by decide +kernel
theorem dX7_lay_38 : decode cX7_lay 38 = .ok (.getfield 36, 3) := by decide +kernel
theorem dX7_lay_41 : decode cX7_lay 41 = .ok (.iload 9, 2) := by decide +kernel
theorem dX7_lay_43 : decode cX7_lay 43 = .ok (.iconst 3, 1) := by decide +kernel
theorem dX7_lay_44 : decode cX7_lay 44 = .ok (.iadd, 1) := by decide +kernel
theorem dX7_lay_45 : decode cX7_lay 45 = .ok (.iload 4, 2) := by decide +kernel
theorem dX7_lay_47 : decode cX7_lay 47 = .ok (.iastore, 1) := by decide +kernel
theorem dX7_lay_48 : decode cX7_lay 48 = .ok (.aload_n 0, 1) := by decide +kernel
theorem dX7_lay_49 : decode cX7_lay 49 = .ok (.getfield 36, 3) := by decide +kernel
theorem dX7_lay_52 : decode cX7_lay 52 = .ok (.iload 9, 2) := by decide +kernel
theorem dX7_lay_54 : decode cX7_lay 54 = .ok (.iconst 4, 1) := by decide +kernel
theorem dX7_lay_55 : decode cX7_lay 55 = .ok (.iadd, 1) := by decide +kernel
theorem dX7_lay_56 : decode cX7_lay 56 = .ok (.aload_n 0, 1) := by decide +kernel
theorem dX7_lay_57 : decode cX7_lay 57 = .ok (.getfield 145, 3) := by decide +kernel
theorem dX7_lay_60 : decode cX7_lay 60 = .ok (.iastore, 1) := by decide +kernel
theorem dX7_lay_61 : decode cX7_lay 61 = .ok (.aload_n 0, 1) := by decide +kernel
theorem dX7_lay_62 : decode cX7_lay 62 = .ok (.getfield 36, 3) := by decide +kernel
theorem dX7_lay_65 : decode cX7_lay 65 = .ok (.iload 9, 2) := by decide +kernel
theorem dX7_lay_67 : decode cX7_lay 67 = .ok (.iconst 5, 1) := by decide +kernel
theorem dX7_lay_68 : decode cX7_lay 68 = .ok (.iadd, 1) := by decide +kernel
theorem dX7_lay_69 : decode cX7_lay 69 = .ok (.iload 5, 2) := by decide +kernel
theorem dX7_lay_71 : decode cX7_lay 71 = .ok (.iastore, 1) := by decide +kernel
theorem dX7_lay_72 : decode cX7_lay 72 = .ok (.aload_n 0, 1) := by decide +kernel
theorem dX7_lay_73 : decode cX7_lay 73 = .ok (.getfield 36, 3) := by decide +kernel
theorem dX7_lay_76 : decode cX7_lay 76 = .ok (.iload 9, 2) := by decide +kernel
theorem dX7_lay_78 : decode cX7_lay 78 = .ok (.bipush 6, 2) := by decide +kernel
theorem dX7_lay_80 : decode cX7_lay 80 = .ok (.iadd, 1) := by decide +kernel
theorem dX7_lay_81 : decode cX7_lay 81 = .ok (.iload 6, 2) := by decide +kernel
theorem dX7_lay_83 : decode cX7_lay 83 = .ok (.iastore, 1) := by decide +kernel
theorem dX7_lay_84 : decode cX7_lay 84 = .ok (.aload_n 0, 1) := by decide +kernel
theorem dX7_lay_85 : decode cX7_lay 85 = .ok (.getfield 36, 3) := by decide +kernel
theorem dX7_lay_88 : decode cX7_lay 88 = .ok (.iload 9, 2) := by decide +kernel
theorem dX7_lay_90 : decode cX7_lay 90 = .ok (.bipush 7, 2) := by decide +kernel
theorem dX7_lay_92 : decode cX7_lay 92 = .ok (.iadd, 1) := by decide +kernel
theorem dX7_lay_93 : decode cX7_lay 93 = .ok (.iload 7, 2) := by decide +kernel
theorem dX7_lay_95 : decode cX7_lay 95 = .ok (.iastore, 1) := by decide +kernel
theorem dX7_lay_96 : decode cX7_lay 96 = .ok (.aload_n 0, 1) := by decide +kernel
theorem dX7_lay_97 : decode cX7_lay 97 = .ok (.getfield 36, 3) := by decide +kernel
theorem dX7_lay_100 : decode cX7_lay 100 = .ok (.iload 9, 2) := by decide +kernel
theorem dX7_lay_102 : decode cX7_lay 102 = .ok (.bipush 8, 2) := by decide +kernel
theorem dX7_lay_104 : decode cX7_lay 104 = .ok (.iadd, 1) := by decide +kernel
theorem dX7_lay_105 : decode cX7_lay 105 = .ok (.iload 8, 2) := by decide +kernel
theorem dX7_lay_107 : decode cX7_lay 107 = .ok (.iastore, 1) := by decide +kernel
theorem dX7_lay_108 : decode cX7_lay 108 = .ok (.aload_n 0, 1) := by decide +kernel
theorem dX7_lay_109 : decode cX7_lay 109 = .ok (.dup, 1) := by decide +kernel
theorem dX7_lay_110 : decode cX7_lay 110 = .ok (.getfield 142, 3) := by decide +kernel
theorem dX7_lay_113 : decode cX7_lay 113 = .ok (.iconst 1, 1) := by decide +kernel
theorem dX7_lay_114 : decode cX7_lay 114 = .ok (.iadd, 1) := by decide +kernel
theorem dX7_lay_115 : decode cX7_lay 115 = .ok (.putfield 142, 3) := by decide +kernel
theorem dX7_lay_118 : decode cX7_lay 118 = .ok (.return_, 1) := by decide +kernel
theorem dX7_round_0 : decode cX7_round 0 = .ok (.iconst 0, 1) := by decide +kernel
theorem dX7_round_1 : decode cX7_round 1 = .ok (.istore_n 1, 1) := by decide +kernel
theorem dX7_round_2 : decode cX7_round 2 = .ok (.iload_n 1, 1) := by decide +kernel
theorem dX7_round_3 : decode cX7_round 3 = .ok (.sipush 784, 3) := by decide +kernel
theorem dX7_round_6 : decode cX7_round 6 = .ok (.if_icmp .ge 16, 3) := by decide +kernel
theorem dX7_round_9 : decode cX7_round 9 = .ok (.aload_n 0, 1) := by decide +kernel
theorem dX7_round_10 : decode cX7_round 10 = .ok (.getfield 45, 3) := by decide +kernel
theorem dX7_round_13 : decode cX7_round 13 = .ok (.iload_n 1, 1) := by decide +kernel
theorem dX7_round_14 : decode cX7_round 14 = .ok (.iconst (-1), 1) := by decide +kernel
theorem dX7_round_15 : decode cX7_round 15 = .ok (.iastore, 1) := by decide +kernel
theorem dX7_round_16 : decode cX7_round 16 = .ok (.iinc 1 1, 3) := by decide +kernel
theorem dX7_round_19 : decode cX7_round 19 = .ok (.goto (-17), 3) := by decide +kernel
theorem dX7_round_22 : decode cX7_round 22 = .ok (.iconst 0, 1) := by decide +kernel
theorem dX7_round_23 : decode cX7_round 23 = .ok (.istore_n 1, 1) := by decide +kernel
theorem dX7_round_24 : decode cX7_round 24 = .ok (.iload_n 1, 1) := by decide +kernel
theorem dX7_round_25 : decode cX7_round 25 = .ok (.sipush 3136, 3) := by decide +kernel
theorem dX7_round_28 : decode cX7_round 28 = .ok (.if_icmp .ge 16, 3) := by decide +kernel
theorem dX7_round_31 : decode cX7_round 31 = .ok (.aload_n 0, 1) := by decide +kernel
theorem dX7_round_32 : decode cX7_round 32 = .ok (.getfield 57, 3) := by decide +kernel
theorem dX7_round_35 : decode cX7_round 35 = .ok (.iload_n 1, 1) := by decide +kernel
theorem dX7_round_36 : decode cX7_round 36 = .ok (.iconst (-1), 1) := by decide +kernel
theorem dX7_round_37 : decode cX7_round 37 = .ok (.iastore, 1) := by decide +kernel
theorem dX7_round_38 : decode cX7_round 38 = .ok (.iinc 1 1, 3) := by decide +kernel
theorem dX7_round_41 : decode cX7_round 41 = .ok (.goto (-17), 3) := by decide +kernel
theorem dX7_round_44 : decode cX7_round 44 = .ok (.aload_n 0, 1) := by decide +kernel
theorem dX7_round_45 : decode cX7_round 45 = .ok (.invokevirtual 148, 3) := by decide +kernel
theorem dX7_round_48 : decode cX7_round 48 = .ok (.aload_n 0, 1) := by decide +kernel
theorem dX7_round_49 : decode cX7_round 49 = .ok (.invokevirtual 151, 3) := by decide +kernel
theorem dX7_round_52 : decode cX7_round 52 = .ok (.aload_n 0, 1) := by decide +kernel
theorem dX7_round_53 : decode cX7_round 53 = .ok (.invokevirtual 154, 3) := by decide +kernel
theorem dX7_round_56 : decode cX7_round 56 = .ok (.aload_n 0, 1) := by decide +kernel
theorem dX7_round_57 : decode cX7_round 57 = .ok (.invokevirtual 157, 3) := by decide +kernel
theorem dX7_round_60 : decode cX7_round 60 = .ok (.aload_n 0, 1) := by decide +kernel
theorem dX7_round_61 : decode cX7_round 61 = .ok (.invokevirtual 160, 3) := by decide +kernel
theorem dX7_round_64 : decode cX7_round 64 = .ok (.aload_n 0, 1) := by decide +kernel
theorem dX7_round_65 : decode cX7_round 65 = .ok (.aload_n 0, 1) := by decide +kernel
theorem dX7_round_66 : decode cX7_round 66 = .ok (.getfield 120, 3) := by decide +kernel
theorem dX7_round_69 : decode cX7_round 69 = .ok (.putfield 142, 3) := by decide +kernel
theorem dX7_round_72 : decode cX7_round 72 = .ok (.aload_n 0, 1) := by decide +kernel
theorem dX7_round_73 : decode cX7_round 73 = .ok (.dup, 1) := by decide +kernel
theorem dX7_round_74 : decode cX7_round 74 = .ok (.getfield 145, 3) := by decide +kernel
theorem dX7_round_77 : decode cX7_round 77 = .ok (.iconst 1, 1) := by decide +kernel
theorem dX7_round_78 : decode cX7_round 78 = .ok (.iadd, 1) := by decide +kernel
theorem dX7_round_79 : decode cX7_round 79 = .ok (.putfield 145, 3) := by decide +kernel
theorem dX7_round_82 : decode cX7_round 82 = .ok (.iconst 0, 1) := by decide +kernel
theorem dX7_round_83 : decode cX7_round 83 = .ok (.istore_n 1, 1) := by decide +kernel
theorem dX7_round_84 : decode cX7_round 84 = .ok (.iload_n 1, 1) := by decide +kernel
theorem dX7_round_85 : decode cX7_round 85 = .ok (.aload_n 0, 1) := by decide +kernel
theorem dX7_round_86 : decode cX7_round 86 = .ok (.getfield 84, 3) := by decide +kernel
theorem dX7_round_89 : decode cX7_round 89 = .ok (.if_icmp .ge 184, 3) := by decide +kernel
theorem dX7_round_92 : decode cX7_round 92 = .ok (.iconst 0, 1) := by decide +kernel
theorem dX7_round_93 : decode cX7_round 93 = .ok (.istore_n 2, 1) := by decide +kernel
theorem dX7_round_94 : decode cX7_round 94 = .ok (.iload_n 2, 1) := by decide +kernel
theorem dX7_round_95 : decode cX7_round 95 = .ok (.aload_n 0, 1) := by decide +kernel
theorem dX7_round_96 : decode cX7_round 96 = .ok (.getfield 84, 3) := by decide +kernel
theorem dX7_round_99 : decode cX7_round 99 = .ok (.if_icmp .ge 68, 3) := by decide +kernel
theorem dX7_round_102 : decode cX7_round 102 = .ok (.bipush 28, 2) := by decide +kernel
theorem dX7_round_104 : decode cX7_round 104 = .ok (.iload_n 1, 1) := by decide +kernel
theorem dX7_round_105 : decode cX7_round 105 = .ok (.imul, 1) := by decide +kernel
theorem dX7_round_106 : decode cX7_round 106 = .ok (.iload_n 2, 1) := by decide +kernel
theorem dX7_round_107 : decode cX7_round 107 = .ok (.iadd, 1) := by decide +kernel
theorem dX7_round_108 : decode cX7_round 108 = .ok (.istore_n 3, 1) := by decide +kernel
theorem dX7_round_109 : decode cX7_round 109 = .ok (.aload_n 0, 1) := by decide +kernel
theorem dX7_round_110 : decode cX7_round 110 = .ok (.getfield 45, 3) := by decide +kernel
theorem dX7_round_113 : decode cX7_round 113 = .ok (.iload_n 3, 1) := by decide +kernel
theorem dX7_round_114 : decode cX7_round 114 = .ok (.iaload, 1) := by decide +kernel
theorem dX7_round_115 : decode cX7_round 115 = .ok (.iconst (-1), 1) := by decide +kernel
theorem dX7_round_116 : decode cX7_round 116 = .ok (.if_icmp .eq 45, 3) := by decide +kernel
theorem dX7_round_119 : decode cX7_round 119 = .ok (.aload_n 0, 1) := by decide +kernel
theorem dX7_round_120 : decode cX7_round 120 = .ok (.getfield 39, 3) := by decide +kernel
theorem dX7_round_123 : decode cX7_round 123 = .ok (.iload_n 3, 1) := by decide +kernel
theorem dX7_round_124 : decode cX7_round 124 = .ok (.aload_n 0, 1) := by decide +kernel
theorem dX7_round_125 : decode cX7_round 125 = .ok (.getfield 142, 3) := by decide +kernel
theorem dX7_round_128 : decode cX7_round 128 = .ok (.iastore, 1) := by decide +kernel
theorem dX7_round_129 : decode cX7_round 129 = .ok (.aload_n 0, 1) := by decide +kernel
theorem dX7_round_130 : decode cX7_round 130 = .ok (.iconst 0, 1) := by decide +kernel
theorem dX7_round_131 : decode cX7_round 131 = .ok (.iload_n 1, 1) := by decide +kernel
theorem dX7_round_132 : decode cX7_round 132 = .ok (.iload_n 2, 1) := by decide +kernel
theorem dX7_round_133 : decode cX7_round 133 = .ok (.iconst (-1), 1) := by decide +kernel
theorem dX7_round_134 : decode cX7_round 134 = .ok (.aload_n 0, 1) := by decide +kernel
theorem dX7_round_135 : decode cX7_round 135 = .ok (.getfield 45, 3) := by decide +kernel
theorem dX7_round_138 : decode cX7_round 138 = .ok (.iload_n 3, 1) := by decide +kernel
theorem dX7_round_139 : decode cX7_round 139 = .ok (.iaload, 1) := by decide +kernel
theorem dX7_round_140 : decode cX7_round 140 = .ok (.aload_n 0, 1) := by decide +kernel
theorem dX7_round_141 : decode cX7_round 141 = .ok (.getfield 48, 3) := by decide +kernel
theorem dX7_round_144 : decode cX7_round 144 = .ok (.iload_n 3, 1) := by decide +kernel
theorem dX7_round_145 : decode cX7_round 145 = .ok (.iaload, 1) := by decide +kernel
theorem dX7_round_146 : decode cX7_round 146 = .ok (.aload_n 0, 1) := by decide +kernel
theorem dX7_round_147 : decode cX7_round 147 = .ok (.getfield 51, 3) := by decide +kernel
theorem dX7_round_150 : decode cX7_round 150 = .ok (.iload_n 3, 1) := by decide +kernel
theorem dX7_round_151 : decode cX7_round 151 = .ok (.iaload, 1) := by decide +kernel
theorem dX7_round_152 : decode cX7_round 152 = .ok (.aload_n 0, 1) := by decide +kernel
theorem dX7_round_153 : decode cX7_round 153 = .ok (.getfield 54, 3) := by decide +kernel
theorem dX7_round_156 : decode cX7_round 156 = .ok (.iload_n 3, 1) := by decide +kernel
theorem dX7_round_157 : decode cX7_round 157 = .ok (.iaload, 1) := by decide +kernel
theorem dX7_round_158 : decode cX7_round 158 = .ok (.invokevirtual 163, 3) := by decide +kernel
theorem dX7_round_161 : decode cX7_round 161 = .ok (.iinc 2 1, 3) := by decide +kernel
theorem dX7_round_164 : decode cX7_round 164 = .ok (.goto (-70), 3) := by decide +kernel
theorem dX7_round_167 : decode cX7_round 167 = .ok (.iconst 0, 1) := by decide +kernel
theorem dX7_round_168 : decode cX7_round 168 = .ok (.istore_n 2, 1) := by decide +kernel
theorem dX7_round_169 : decode cX7_round 169 = .ok (.iload_n 2, 1) := by decide +kernel
theorem dX7_round_170 : decode cX7_round 170 = .ok (.iconst 4, 1) := by decide +kernel
theorem dX7_round_171 : decode cX7_round 171 = .ok (.if_icmp .ge 96, 3) := by decide +kernel
theorem dX7_round_174 : decode cX7_round 174 = .ok (.iconst 0, 1) := by decide +kernel
theorem dX7_round_175 : decode cX7_round 175 = .ok (.istore_n 3, 1) := by decide +kernel
theorem dX7_round_176 : decode cX7_round 176 = .ok (.iload_n 3, 1) := by decide +kernel
theorem dX7_round_177 : decode cX7_round 177 = .ok (.aload_n 0, 1) := by decide +kernel
theorem dX7_round_178 : decode cX7_round 178 = .ok (.getfield 84, 3) := by decide +kernel
theorem dX7_round_181 : decode cX7_round 181 = .ok (.if_icmp .ge 80, 3) := by decide +kernel
theorem dX7_round_184 : decode cX7_round 184 = .ok (.bipush 112, 2) := by decide +kernel
theorem dX7_round_186 : decode cX7_round 186 = .ok (.iload_n 1, 1) := by decide +kernel
theorem dX7_round_187 : decode cX7_round 187 = .ok (.imul, 1) := by decide +kernel
theorem dX7_round_188 : decode cX7_round 188 = .ok (.bipush 28, 2) := by decide +kernel
theorem dX7_round_190 : decode cX7_round 190 = .ok (.iload_n 2, 1) := by decide +kernel
theorem dX7_round_191 : decode cX7_round 191 = .ok (.imul, 1) := by decide +kernel
theorem dX7_round_192 : decode cX7_round 192 = .ok (.iadd, 1) := by decide +kernel
theorem dX7_round_193 : decode cX7_round 193 = .ok (.iload_n 3, 1) := by decide +kernel
theorem dX7_round_194 : decode cX7_round 194 = .ok (.iadd, 1) := by decide +kernel
theorem dX7_round_195 : decode cX7_round 195 = .ok (.istore 4, 2) := by decide +kernel
theorem dX7_round_197 : decode cX7_round 197 = .ok (.aload_n 0, 1) := by decide +kernel
theorem dX7_round_198 : decode cX7_round 198 = .ok (.getfield 57, 3) := by decide +kernel
theorem dX7_round_201 : decode cX7_round 201 = .ok (.iload 4, 2) := by decide +kernel
theorem dX7_round_203 : decode cX7_round 203 = .ok (.iaload, 1) := by decide +kernel
theorem dX7_round_204 : decode cX7_round 204 = .ok (.iconst (-1), 1) := by decide +kernel
theorem dX7_round_205 : decode cX7_round 205 = .ok (.if_icmp .eq 50, 3) := by decide +kernel
theorem dX7_round_208 : decode cX7_round 208 = .ok (.aload_n 0, 1) := by decide +kernel
theorem dX7_round_209 : decode cX7_round 209 = .ok (.getfield 42, 3) := by decide +kernel
theorem dX7_round_212 : decode cX7_round 212 = .ok (.iload 4, 2) := by decide +kernel
theorem dX7_round_214 : decode cX7_round 214 = .ok (.aload_n 0, 1) := by decide +kernel
theorem dX7_round_215 : decode cX7_round 215 = .ok (.getfield 142, 3) := by decide +kernel
theorem dX7_round_218 : decode cX7_round 218 = .ok (.iastore, 1) := by decide +kernel
theorem dX7_round_219 : decode cX7_round 219 = .ok (.aload_n 0, 1) := by decide +kernel
theorem dX7_round_220 : decode cX7_round 220 = .ok (.iconst 1, 1) := by decide +kernel
theorem dX7_round_221 : decode cX7_round 221 = .ok (.iload_n 1, 1) := by decide +kernel
theorem dX7_round_222 : decode cX7_round 222 = .ok (.iload_n 3, 1) := by decide +kernel
theorem dX7_round_223 : decode cX7_round 223 = .ok (.iload_n 2, 1) := by decide +kernel
theorem dX7_round_224 : decode cX7_round 224 = .ok (.aload_n 0, 1) := by decide +kernel
theorem dX7_round_225 : decode cX7_round 225 = .ok (.getfield 57, 3) := by decide +kernel
theorem dX7_round_228 : decode cX7_round 228 = .ok (.iload 4, 2) := by decide +kernel
theorem dX7_round_230 : decode cX7_round 230 = .ok (.iaload, 1) := by decide +kernel
theorem dX7_round_231 : decode cX7_round 231 = .ok (.aload_n 0, 1) := by decide +kernel
theorem dX7_round_232 : decode cX7_round 232 = .ok (.getfield 60, 3) := by decide +kernel
theorem dX7_round_235 : decode cX7_round 235 = .ok (.iload 4, 2) := by decide +kernel
theorem dX7_round_237 : decode cX7_round 237 = .ok (.iaload, 1) := by decide +kernel
theorem dX7_round_238 : decode cX7_round 238 = .ok (.aload_n 0, 1) := by decide +kernel
theorem dX7_round_239 : decode cX7_round 239 = .ok (.getfield 63, 3) := by decide +kernel
theorem dX7_round_242 : decode cX7_round 242 = .ok (.iload 4, 2) := by decide +kernel
theorem dX7_round_244 : decode cX7_round 244 = .ok (.iaload, 1) := by decide +kernel
theorem dX7_round_245 : decode cX7_round 245 = .ok (.aload_n 0, 1) := by decide +kernel
theorem dX7_round_246 : decode cX7_round 246 = .ok (.getfield 66, 3) := by decide +kernel
theorem dX7_round_249 : decode cX7_round 249 = .ok (.iload 4, 2) := by decide +kernel
theorem dX7_round_251 : decode cX7_round 251 = .ok (.iaload, 1) := by decide +kernel
theorem dX7_round_252 : decode cX7_round 252 = .ok (.invokevirtual 163, 3) := by decide +kernel
theorem dX7_round_255 : decode cX7_round 255 = .ok (.iinc 3 1, 3) := by decide +kernel
theorem dX7_round_258 : decode cX7_round 258 = .ok (.goto (-82), 3) := by decide +kernel
theorem dX7_round_261 : decode cX7_round 261 = .ok (.iinc 2 1, 3) := by decide +kernel
theorem dX7_round_264 : decode cX7_round 264 = .ok (.goto (-95), 3) := by decide +kernel
theorem dX7_round_267 : decode cX7_round 267 = .ok (.iinc 1 1, 3) := by decide +kernel
theorem dX7_round_270 : decode cX7_round 270 = .ok (.goto (-186), 3) := by decide +kernel
theorem dX7_round_273 : decode cX7_round 273 = .ok (.aload_n 0, 1) := by decide +kernel
theorem dX7_round_274 : decode cX7_round 274 = .ok (.getfield 142, 3) := by decide +kernel
theorem dX7_round_277 : decode cX7_round 277 = .ok (.aload_n 0, 1) := by decide +kernel
theorem dX7_round_278 : decode cX7_round 278 = .ok (.getfield 120, 3) := by decide +kernel
theorem dX7_round_281 : decode cX7_round 281 = .ok (.if_icmp .le 7, 3) := by decide +kernel
theorem dX7_round_284 : decode cX7_round 284 = .ok (.iconst 1, 1) := by decide +kernel
theorem dX7_round_285 : decode cX7_round 285 = .ok (.goto 4, 3) := by decide +kernel
theorem dX7_round_288 : decode cX7_round 288 = .ok (.iconst 0, 1) := by decide +kernel
theorem dX7_round_289 : decode cX7_round 289 = .ok (.istore_n 1, 1) := by decide +kernel
theorem dX7_round_290 : decode cX7_round 290 = .ok (.aload_n 0, 1) := by decide +kernel
theorem dX7_round_291 : decode cX7_round 291 = .ok (.dup, 1) := by decide +kernel
theorem dX7_round_292 : decode cX7_round 292 = .ok (.getfield 145, 3) := by decide +kernel
theorem dX7_round_295 : decode cX7_round 295 = .ok (.iload_n 1, 1) := by decide +kernel
theorem dX7_round_296 : decode cX7_round 296 = .ok (.ifCond .eq 7, 3) := by decide +kernel
theorem dX7_round_299 : decode cX7_round 299 = .ok (.iconst 0, 1) := by decide +kernel
theorem dX7_round_300 : decode cX7_round 300 = .ok (.goto 4, 3) := by decide +kernel
theorem dX7_round_303 : decode cX7_round 303 = .ok (.iconst 1, 1) := by decide +kernel
theorem dX7_round_304 : decode cX7_round 304 = .ok (.isub, 1) := by decide +kernel
theorem dX7_round_305 : decode cX7_round 305 = .ok (.putfield 145, 3) := by decide +kernel
theorem dX7_round_308 : decode cX7_round 308 = .ok (.aload_n 0, 1) := by decide +kernel
theorem dX7_round_309 : decode cX7_round 309 = .ok (.aload_n 0, 1) := by decide +kernel
theorem dX7_round_310 : decode cX7_round 310 = .ok (.getfield 142, 3) := by decide +kernel
theorem dX7_round_313 : decode cX7_round 313 = .ok (.putfield 120, 3) := by decide +kernel
theorem dX7_round_316 : decode cX7_round 316 = .ok (.iload_n 1, 1) := by decide +kernel
theorem dX7_round_317 : decode cX7_round 317 = .ok (.ireturn, 1) := by decide +kernel
theorem dX7_conclude_0 : decode cX7_conclude 0 = .ok (.aload_n 0, 1) := by decide +kernel
theorem dX7_conclude_1 : decode cX7_conclude 1 = .ok (.getfield 167, 3) := by decide +kernel
theorem dX7_conclude_4 : decode cX7_conclude 4 = .ok (.bipush 20, 2) := by decide +kernel
theorem dX7_conclude_6 : decode cX7_conclude 6 = .ok (.if_icmp .ne 6, 3) := by decide +kernel
theorem dX7_conclude_9 : decode cX7_conclude 9 = .ok (.bipush (-103), 2) := by decide +kernel
theorem dX7_conclude_11 : decode cX7_conclude 11 = .ok (.ireturn, 1) := by decide +kernel
theorem dX7_conclude_12 : decode cX7_conclude 12 = .ok (.aload_n 0, 1) := by decide +kernel
theorem dX7_conclude_13 : decode cX7_conclude 13 = .ok (.dup, 1) := by decide +kernel
theorem dX7_conclude_14 : decode cX7_conclude 14 = .ok (.getfield 167, 3) := by decide +kernel
theorem dX7_conclude_17 : decode cX7_conclude 17 = .ok (.iconst 1, 1) := by decide +kernel
theorem dX7_conclude_18 : decode cX7_conclude 18 = .ok (.iadd, 1) := by decide +kernel
theorem dX7_conclude_19 : decode cX7_conclude 19 = .ok (.putfield 167, 3) := by decide +kernel
theorem dX7_conclude_22 : decode cX7_conclude 22 = .ok (.aload_n 0, 1) := by decide +kernel
theorem dX7_conclude_23 : decode cX7_conclude 23 = .ok (.invokevirtual 170, 3) := by decide +kernel
theorem dX7_conclude_26 : decode cX7_conclude 26 = .ok (.aload_n 0, 1) := by decide +kernel
theorem dX7_conclude_27 : decode cX7_conclude 27 = .ok (.iconst 0, 1) := by decide +kernel
theorem dX7_conclude_28 : decode cX7_conclude 28 = .ok (.putfield 120, 3) := by decide +kernel
theorem dX7_conclude_31 : decode cX7_conclude 31 = .ok (.aload_n 0, 1) := by decide +kernel
theorem dX7_conclude_32 : decode cX7_conclude 32 = .ok (.iconst 0, 1) := by decide +kernel
theorem dX7_conclude_33 : decode cX7_conclude 33 = .ok (.putfield 145, 3) := by decide +kernel
theorem dX7_conclude_36 : decode cX7_conclude 36 = .ok (.iconst 0, 1) := by decide +kernel
theorem dX7_conclude_37 : decode cX7_conclude 37 = .ok (.istore_n 1, 1) := by decide +kernel
theorem dX7_conclude_38 : decode cX7_conclude 38 = .ok (.iload_n 1, 1) := by decide +kernel
theorem dX7_conclude_39 : decode cX7_conclude 39 = .ok (.sipush 784, 3) := by decide +kernel
theorem dX7_conclude_42 : decode cX7_conclude 42 = .ok (.if_icmp .ge 16, 3) := by decide +kernel
theorem dX7_conclude_45 : decode cX7_conclude 45 = .ok (.aload_n 0, 1) := by decide +kernel
theorem dX7_conclude_46 : decode cX7_conclude 46 = .ok (.getfield 39, 3) := by decide +kernel
theorem dX7_conclude_49 : decode cX7_conclude 49 = .ok (.iload_n 1, 1) := by decide +kernel
theorem dX7_conclude_50 : decode cX7_conclude 50 = .ok (.iconst (-1), 1) := by decide +kernel
theorem dX7_conclude_51 : decode cX7_conclude 51 = .ok (.iastore, 1) := by decide +kernel
theorem dX7_conclude_52 : decode cX7_conclude 52 = .ok (.iinc 1 1, 3) := by decide +kernel
theorem dX7_conclude_55 : decode cX7_conclude 55 = .ok (.goto (-17), 3) := by decide +kernel
theorem dX7_conclude_58 : decode cX7_conclude 58 = .ok (.iconst 0, 1) := by decide +kernel
theorem dX7_conclude_59 : decode cX7_conclude 59 = .ok (.istore_n 1, 1) := by decide +kernel
theorem dX7_conclude_60 : decode cX7_conclude 60 = .ok (.iload_n 1, 1) := by decide +kernel
theorem dX7_conclude_61 : decode cX7_conclude 61 = .ok (.sipush 3136, 3) := by decide +kernel
theorem dX7_conclude_64 : decode cX7_conclude 64 = .ok (.if_icmp .ge 16, 3) := by decide +kernel
theorem dX7_conclude_67 : decode cX7_conclude 67 = .ok (.aload_n 0, 1) := by decide +kernel
theorem dX7_conclude_68 : decode cX7_conclude 68 = .ok (.getfield 42, 3) := by decide +kernel
theorem dX7_conclude_71 : decode cX7_conclude 71 = .ok (.iload_n 1, 1) := by decide +kernel
theorem dX7_conclude_72 : decode cX7_conclude 72 = .ok (.iconst (-1), 1) := by decide +kernel
theorem dX7_conclude_73 : decode cX7_conclude 73 = .ok (.iastore, 1) := by decide +kernel
theorem dX7_conclude_74 : decode cX7_conclude 74 = .ok (.iinc 1 1, 3) := by decide +kernel
theorem dX7_conclude_77 : decode cX7_conclude 77 = .ok (.goto (-17), 3) := by decide +kernel
theorem dX7_conclude_80 : decode cX7_conclude 80 = .ok (.iconst 1, 1) := by decide +kernel
theorem dX7_conclude_81 : decode cX7_conclude 81 = .ok (.istore_n 1, 1) := by decide +kernel
theorem dX7_conclude_82 : decode cX7_conclude 82 = .ok (.iload_n 1, 1) := by decide +kernel
theorem dX7_conclude_83 : decode cX7_conclude 83 = .ok (.ifCond .eq 11, 3) := by decide +kernel
theorem dX7_conclude_86 : decode cX7_conclude 86 = .ok (.aload_n 0, 1) := by decide +kernel
theorem dX7_conclude_87 : decode cX7_conclude 87 = .ok (.invokevirtual 173, 3) := by decide +kernel
theorem dX7_conclude_90 : decode cX7_conclude 90 = .ok (.istore_n 1, 1) := by decide +kernel
theorem dX7_conclude_91 : decode cX7_conclude 91 = .ok (.goto (-9), 3) := by decide +kernel
theorem dX7_conclude_94 : decode cX7_conclude 94 = .ok (.aload_n 0, 1) := by decide +kernel
theorem dX7_conclude_95 : decode cX7_conclude 95 = .ok (.iconst 1, 1) := by decide +kernel
theorem dX7_conclude_96 : decode cX7_conclude 96 = .ok (.putfield 92, 3) := by decide +kernel
theorem dX7_conclude_99 : decode cX7_conclude 99 = .ok (.aload_n 0, 1) := by decide +kernel
theorem dX7_conclude_100 : decode cX7_conclude 100 = .ok (.invokevirtual 177, 3) := by decide +kernel
theorem dX7_conclude_103 : decode cX7_conclude 103 = .ok (.aload_n 0, 1) := by decide +kernel
theorem dX7_conclude_104 : decode cX7_conclude 104 = .ok (.getfield 120, 3) := by decide +kernel
theorem dX7_conclude_107 : decode cX7_conclude 107 = .ok (.ireturn, 1) := by decide +kernel
theorem dX7_rounds_0 : decode cX7_rounds 0 = .ok (.aload_n 0, 1) := by decide +kernel
theorem dX7_rounds_1 : decode cX7_rounds 1 = .ok (.getfield 92, 3) := by decide +kernel
theorem dX7_rounds_4 : decode cX7_rounds 4 = .ok (.ifCond .eq 10, 3) := by decide +kernel
theorem dX7_rounds_7 : decode cX7_rounds 7 = .ok (.aload_n 0, 1) := by decide +kernel
theorem dX7_rounds_8 : decode cX7_rounds 8 = .ok (.getfield 145, 3) := by decide +kernel
theorem dX7_rounds_11 : decode cX7_rounds 11 = .ok (.goto 5, 3) := by decide +kernel
theorem dX7_rounds_14 : decode cX7_rounds 14 = .ok (.bipush (-103), 2) := by decide +kernel
theorem dX7_rounds_16 : decode cX7_rounds 16 = .ok (.ireturn, 1) := by decide +kernel
theorem dX7_conclusion_0 : decode cX7_conclusion 0 = .ok (.aload_n 0, 1) := by decide +kernel
theorem dX7_conclusion_1 : decode cX7_conclusion 1 = .ok (.getfield 92, 3) := by decide +kernel
theorem dX7_conclusion_4 : decode cX7_conclusion 4 = .ok (.ifCond .ne 6, 3) := by decide +kernel
theorem dX7_conclusion_7 : decode cX7_conclusion 7 = .ok (.bipush (-103), 2) := by decide +kernel
theorem dX7_conclusion_9 : decode cX7_conclusion 9 = .ok (.ireturn, 1) := by decide +kernel
theorem dX7_conclusion_10 : decode cX7_conclusion 10 = .ok (.iload_n 1, 1) := by decide +kernel
theorem dX7_conclusion_11 : decode cX7_conclusion 11 = .ok (.iconst 0, 1) := by decide +kernel
theorem dX7_conclusion_12 : decode cX7_conclusion 12 = .ok (.aload_n 0, 1) := by decide +kernel
theorem dX7_conclusion_13 : decode cX7_conclusion 13 = .ok (.getfield 120, 3) := by decide +kernel
theorem dX7_conclusion_16 : decode cX7_conclusion 16 = .ok (.iconst 1, 1) := by decide +kernel
theorem dX7_conclusion_17 : decode cX7_conclusion 17 = .ok (.isub, 1) := by decide +kernel
theorem dX7_conclusion_18 : decode cX7_conclusion 18 = .ok (.invokestatic 88, 3) := by decide +kernel
theorem dX7_conclusion_21 : decode cX7_conclusion 21 = .ok (.ifCond .ne 6, 3) := by decide +kernel
theorem dX7_conclusion_24 : decode cX7_conclusion 24 = .ok (.bipush (-101), 2) := by decide +kernel
theorem dX7_conclusion_26 : decode cX7_conclusion 26 = .ok (.ireturn, 1) := by decide +kernel
theorem dX7_conclusion_27 : decode cX7_conclusion 27 = .ok (.iload_n 2, 1) := by decide +kernel
theorem dX7_conclusion_28 : decode cX7_conclusion 28 = .ok (.iconst 0, 1) := by decide +kernel
theorem dX7_conclusion_29 : decode cX7_conclusion 29 = .ok (.bipush 8, 2) := by decide +kernel
theorem dX7_conclusion_31 : decode cX7_conclusion 31 = .ok (.invokestatic 88, 3) := by decide +kernel
theorem dX7_conclusion_34 : decode cX7_conclusion 34 = .ok (.ifCond .eq 12, 3) := by decide +kernel
theorem dX7_conclusion_37 : decode cX7_conclusion 37 = .ok (.aload_n 0, 1) := by decide +kernel
theorem dX7_conclusion_38 : decode cX7_conclusion 38 = .ok (.iload_n 1, 1) := by decide +kernel
theorem dX7_conclusion_39 : decode cX7_conclusion 39 = .ok (.iload_n 2, 1) := by decide +kernel
theorem dX7_conclusion_40 : decode cX7_conclusion 40 = .ok (.invokevirtual 123, 3) := by decide +kernel
theorem dX7_conclusion_43 : decode cX7_conclusion 43 = .ok (.goto 5, 3) := by decide +kernel
theorem dX7_conclusion_46 : decode cX7_conclusion 46 = .ok (.bipush (-102), 2) := by decide +kernel
theorem dX7_conclusion_48 : decode cX7_conclusion 48 = .ok (.ireturn, 1) := by decide +kernel
theorem dX7_is_0 : decode cX7_is 0 = .ok (.aload_n 0, 1) := by decide +kernel
theorem dX7_is_1 : decode cX7_is 1 = .ok (.getfield 92, 3) := by decide +kernel
theorem dX7_is_4 : decode cX7_is 4 = .ok (.ifCond .ne 6, 3) := by decide +kernel
theorem dX7_is_7 : decode cX7_is 7 = .ok (.bipush (-103), 2) := by decide +kernel
theorem dX7_is_9 : decode cX7_is 9 = .ok (.ireturn, 1) := by decide +kernel
theorem dX7_is_10 : decode cX7_is 10 = .ok (.aload_n 0, 1) := by decide +kernel
theorem dX7_is_11 : decode cX7_is 11 = .ok (.iload_n 1, 1) := by decide +kernel
theorem dX7_is_12 : decode cX7_is 12 = .ok (.invokevirtual 103, 3) := by decide +kernel
theorem dX7_is_15 : decode cX7_is 15 = .ok (.ifCond .eq 25, 3) := by decide +kernel
theorem dX7_is_18 : decode cX7_is 18 = .ok (.aload_n 0, 1) := by decide +kernel
theorem dX7_is_19 : decode cX7_is 19 = .ok (.iload_n 2, 1) := by decide +kernel
theorem dX7_is_20 : decode cX7_is 20 = .ok (.invokevirtual 103, 3) := by decide +kernel
theorem dX7_is_23 : decode cX7_is 23 = .ok (.ifCond .eq 17, 3) := by decide +kernel
theorem dX7_is_26 : decode cX7_is 26 = .ok (.aload_n 0, 1) := by decide +kernel
theorem dX7_is_27 : decode cX7_is 27 = .ok (.getfield 39, 3) := by decide +kernel
theorem dX7_is_30 : decode cX7_is 30 = .ok (.bipush 28, 2) := by decide +kernel
theorem dX7_is_32 : decode cX7_is 32 = .ok (.iload_n 1, 1) := by decide +kernel
theorem dX7_is_33 : decode cX7_is 33 = .ok (.imul, 1) := by decide +kernel
theorem dX7_is_34 : decode cX7_is 34 = .ok (.iload_n 2, 1) := by decide +kernel
theorem dX7_is_35 : decode cX7_is 35 = .ok (.iadd, 1) := by decide +kernel
theorem dX7_is_36 : decode cX7_is 36 = .ok (.iaload, 1) := by decide +kernel
theorem dX7_is_37 : decode cX7_is 37 = .ok (.goto 5, 3) := by decide +kernel
theorem dX7_is_40 : decode cX7_is 40 = .ok (.bipush (-101), 2) := by decide +kernel
theorem dX7_is_42 : decode cX7_is 42 = .ok (.ireturn, 1) := by decide +kernel
theorem dX7_to_0 : decode cX7_to 0 = .ok (.aload_n 0, 1) := by decide +kernel
theorem dX7_to_1 : decode cX7_to 1 = .ok (.getfield 92, 3) := by decide +kernel
theorem dX7_to_4 : decode cX7_to 4 = .ok (.ifCond .ne 6, 3) := by decide +kernel
theorem dX7_to_7 : decode cX7_to 7 = .ok (.bipush (-103), 2) := by decide +kernel
theorem dX7_to_9 : decode cX7_to 9 = .ok (.ireturn, 1) := by decide +kernel
theorem dX7_to_10 : decode cX7_to 10 = .ok (.aload_n 0, 1) := by decide +kernel
theorem dX7_to_11 : decode cX7_to 11 = .ok (.iload_n 1, 1) := by decide +kernel
theorem dX7_to_12 : decode cX7_to 12 = .ok (.invokevirtual 103, 3) := by decide +kernel
theorem dX7_to_15 : decode cX7_to 15 = .ok (.ifCond .eq 11, 3) := by decide +kernel
theorem dX7_to_18 : decode cX7_to 18 = .ok (.aload_n 0, 1) := by decide +kernel
theorem dX7_to_19 : decode cX7_to 19 = .ok (.iload_n 3, 1) := by decide +kernel
theorem dX7_to_20 : decode cX7_to 20 = .ok (.invokevirtual 103, 3) := by decide +kernel
theorem dX7_to_23 : decode cX7_to 23 = .ok (.ifCond .ne 6, 3) := by decide +kernel
theorem dX7_to_26 : decode cX7_to 26 = .ok (.bipush (-101), 2) := by decide +kernel
theorem dX7_to_28 : decode cX7_to 28 = .ok (.ireturn, 1) := by decide +kernel
theorem dX7_to_29 : decode cX7_to 29 = .ok (.iload_n 2, 1) := by decide +kernel
theorem dX7_to_30 : decode cX7_to 30 = .ok (.invokestatic 110, 3) := by decide +kernel
theorem dX7_to_33 : decode cX7_to 33 = .ok (.ifCond .eq 22, 3) := by decide +kernel
theorem dX7_to_36 : decode cX7_to 36 = .ok (.aload_n 0, 1) := by decide +kernel
theorem dX7_to_37 : decode cX7_to 37 = .ok (.getfield 42, 3) := by decide +kernel
theorem dX7_to_40 : decode cX7_to 40 = .ok (.bipush 112, 2) := by decide +kernel
theorem dX7_to_42 : decode cX7_to 42 = .ok (.iload_n 1, 1) := by decide +kernel
theorem dX7_to_43 : decode cX7_to 43 = .ok (.imul, 1) := by decide +kernel
theorem dX7_to_44 : decode cX7_to 44 = .ok (.bipush 28, 2) := by decide +kernel
theorem dX7_to_46 : decode cX7_to 46 = .ok (.iload_n 2, 1) := by decide +kernel
theorem dX7_to_47 : decode cX7_to 47 = .ok (.imul, 1) := by decide +kernel
theorem dX7_to_48 : decode cX7_to 48 = .ok (.iadd, 1) := by decide +kernel
theorem dX7_to_49 : decode cX7_to 49 = .ok (.iload_n 3, 1) := by decide +kernel
theorem dX7_to_50 : decode cX7_to 50 = .ok (.iadd, 1) := by decide +kernel
theorem dX7_to_51 : decode cX7_to 51 = .ok (.iaload, 1) := by decide +kernel
theorem dX7_to_52 : decode cX7_to 52 = .ok (.goto 5, 3) := by decide +kernel
theorem dX7_to_55 : decode cX7_to 55 = .ok (.bipush (-102), 2) := by decide +kernel
theorem dX7_to_57 : decode cX7_to 57 = .ok (.ireturn, 1) := by decide +kernel
theorem dX7_proof_0 : decode cX7_proof 0 = .ok (.aload_n 0, 1) := by decide +kernel
theorem dX7_proof_1 : decode cX7_proof 1 = .ok (.getfield 92, 3) := by decide +kernel
theorem dX7_proof_4 : decode cX7_proof 4 = .ok (.ifCond .ne 6, 3) := by decide +kernel
theorem dX7_proof_7 : decode cX7_proof 7 = .ok (.bipush (-103), 2) := by decide +kernel
theorem dX7_proof_9 : decode cX7_proof 9 = .ok (.ireturn, 1) := by decide +kernel
theorem dX7_proof_10 : decode cX7_proof 10 = .ok (.iload_n 1, 1) := by decide +kernel
theorem dX7_proof_11 : decode cX7_proof 11 = .ok (.iconst 0, 1) := by decide +kernel
theorem dX7_proof_12 : decode cX7_proof 12 = .ok (.aload_n 0, 1) := by decide +kernel
theorem dX7_proof_13 : decode cX7_proof 13 = .ok (.getfield 120, 3) := by decide +kernel
theorem dX7_proof_16 : decode cX7_proof 16 = .ok (.iconst 1, 1) := by decide +kernel
theorem dX7_proof_17 : decode cX7_proof 17 = .ok (.isub, 1) := by decide +kernel
theorem dX7_proof_18 : decode cX7_proof 18 = .ok (.invokestatic 88, 3) := by decide +kernel
theorem dX7_proof_21 : decode cX7_proof 21 = .ok (.ifCond .ne 6, 3) := by decide +kernel
theorem dX7_proof_24 : decode cX7_proof 24 = .ok (.bipush (-101), 2) := by decide +kernel
theorem dX7_proof_26 : decode cX7_proof 26 = .ok (.ireturn, 1) := by decide +kernel
theorem dX7_proof_27 : decode cX7_proof 27 = .ok (.iconst 0, 1) := by decide +kernel
theorem dX7_proof_28 : decode cX7_proof 28 = .ok (.istore_n 2, 1) := by decide +kernel
theorem dX7_proof_29 : decode cX7_proof 29 = .ok (.iload_n 2, 1) := by decide +kernel
theorem dX7_proof_30 : decode cX7_proof 30 = .ok (.iload_n 1, 1) := by decide +kernel
theorem dX7_proof_31 : decode cX7_proof 31 = .ok (.if_icmp .gt 16, 3) := by decide +kernel
theorem dX7_proof_34 : decode cX7_proof 34 = .ok (.aload_n 0, 1) := by decide +kernel
theorem dX7_proof_35 : decode cX7_proof 35 = .ok (.getfield 72, 3) := by decide +kernel
theorem dX7_proof_38 : decode cX7_proof 38 = .ok (.iload_n 2, 1) := by decide +kernel
theorem dX7_proof_39 : decode cX7_proof 39 = .ok (.iconst 0, 1) := by decide +kernel
theorem dX7_proof_40 : decode cX7_proof 40 = .ok (.bastore, 1) := by decide +kernel
theorem dX7_proof_41 : decode cX7_proof 41 = .ok (.iinc 2 1, 3) := by decide +kernel
theorem dX7_proof_44 : decode cX7_proof 44 = .ok (.goto (-15), 3) := by decide +kernel
theorem dX7_proof_47 : decode cX7_proof 47 = .ok (.aload_n 0, 1) := by decide +kernel
theorem dX7_proof_48 : decode cX7_proof 48 = .ok (.getfield 72, 3) := by decide +kernel
theorem dX7_proof_51 : decode cX7_proof 51 = .ok (.iload_n 1, 1) := by decide +kernel
theorem dX7_proof_52 : decode cX7_proof 52 = .ok (.iconst 1, 1) := by decide +kernel
theorem dX7_proof_53 : decode cX7_proof 53 = .ok (.bastore, 1) := by decide +kernel
theorem dX7_proof_54 : decode cX7_proof 54 = .ok (.iconst 0, 1) := by decide +kernel
theorem dX7_proof_55 : decode cX7_proof 55 = .ok (.istore_n 2, 1) := by decide +kernel
theorem dX7_proof_56 : decode cX7_proof 56 = .ok (.iload_n 1, 1) := by decide +kernel
theorem dX7_proof_57 : decode cX7_proof 57 = .ok (.istore_n 3, 1) := by decide +kernel
theorem dX7_proof_58 : decode cX7_proof 58 = .ok (.iload_n 3, 1) := by decide +kernel
theorem dX7_proof_59 : decode cX7_proof 59 = .ok (.ifCond .lt 62, 3) := by decide +kernel
theorem dX7_proof_62 : decode cX7_proof 62 = .ok (.aload_n 0, 1) := by decide +kernel
theorem dX7_proof_63 : decode cX7_proof 63 = .ok (.getfield 72, 3) := by decide +kernel
theorem dX7_proof_66 : decode cX7_proof 66 = .ok (.iload_n 3, 1) := by decide +kernel
theorem dX7_proof_67 : decode cX7_proof 67 = .ok (.baload, 1) := by decide +kernel
theorem dX7_proof_68 : decode cX7_proof 68 = .ok (.ifCond .eq 47, 3) := by decide +kernel
theorem dX7_proof_71 : decode cX7_proof 71 = .ok (.iinc 2 1, 3) := by decide +kernel
theorem dX7_proof_74 : decode cX7_proof 74 = .ok (.bipush 6, 2) := by decide +kernel
theorem dX7_proof_76 : decode cX7_proof 76 = .ok (.istore 4, 2) := by decide +kernel
theorem dX7_proof_78 : decode cX7_proof 78 = .ok (.iload 4, 2) := by decide +kernel
theorem dX7_proof_80 : decode cX7_proof 80 = .ok (.bipush 8, 2) := by decide +kernel
theorem dX7_proof_82 : decode cX7_proof 82 = .ok (.if_icmp .ge 33, 3) := by decide +kernel
theorem dX7_proof_85 : decode cX7_proof 85 = .ok (.aload_n 0, 1) := by decide +kernel
theorem dX7_proof_86 : decode cX7_proof 86 = .ok (.iload_n 3, 1) := by decide +kernel
theorem dX7_proof_87 : decode cX7_proof 87 = .ok (.iload 4, 2) := by decide +kernel
theorem dX7_proof_89 : decode cX7_proof 89 = .ok (.invokevirtual 123, 3) := by decide +kernel
theorem dX7_proof_92 : decode cX7_proof 92 = .ok (.iconst (-1), 1) := by decide +kernel
theorem dX7_proof_93 : decode cX7_proof 93 = .ok (.if_icmp .eq 16, 3) := by decide +kernel
theorem dX7_proof_96 : decode cX7_proof 96 = .ok (.aload_n 0, 1) := by decide +kernel
theorem dX7_proof_97 : decode cX7_proof 97 = .ok (.getfield 72, 3) := by decide +kernel
theorem dX7_proof_100 : decode cX7_proof 100 = .ok (.aload_n 0, 1) := by decide +kernel
theorem dX7_proof_101 : decode cX7_proof 101 = .ok (.iload_n 3, 1) := by decide +kernel
theorem dX7_proof_102 : decode cX7_proof 102 = .ok (.iload 4, 2) := by decide +kernel
theorem dX7_proof_104 : decode cX7_proof 104 = .ok (.invokevirtual 123, 3) := by decide +kernel
theorem dX7_proof_107 : decode cX7_proof 107 = .ok (.iconst 1, 1) := by decide +kernel
theorem dX7_proof_108 : decode cX7_proof 108 = .ok (.bastore, 1) := by decide +kernel
theorem dX7_proof_109 : decode cX7_proof 109 = .ok (.iinc 4 1, 3) := by decide +kernel
theorem dX7_proof_112 : decode cX7_proof 112 = .ok (.goto (-34), 3) := by decide +kernel
theorem dX7_proof_115 : decode cX7_proof 115 = .ok (.iinc 3 (-1), 3) := by decide +kernel
theorem dX7_proof_118 : decode cX7_proof 118 = .ok (.goto (-60), 3) := by decide +kernel
theorem dX7_proof_121 : decode cX7_proof 121 = .ok (.iload_n 2, 1) := by decide +kernel
theorem dX7_proof_122 : decode cX7_proof 122 = .ok (.ireturn, 1) := by decide +kernel
theorem dX7_isPlain_0 : decode cX7_isPlain 0 = .ok (.aload_n 0, 1) := by decide +kernel
theorem dX7_isPlain_1 : decode cX7_isPlain 1 = .ok (.iload_n 1, 1) := by decide +kernel
theorem dX7_isPlain_2 : decode cX7_isPlain 2 = .ok (.invokevirtual 103, 3) := by decide +kernel
theorem dX7_isPlain_5 : decode cX7_isPlain 5 = .ok (.ifCond .eq 17, 3) := by decide +kernel
theorem dX7_isPlain_8 : decode cX7_isPlain 8 = .ok (.aload_n 0, 1) := by decide +kernel
theorem dX7_isPlain_9 : decode cX7_isPlain 9 = .ok (.getfield 7, 3) := by decide +kernel
theorem dX7_isPlain_12 : decode cX7_isPlain 12 = .ok (.iload_n 1, 1) := by decide +kernel
theorem dX7_isPlain_13 : decode cX7_isPlain 13 = .ok (.iaload, 1) := by decide +kernel
theorem dX7_isPlain_14 : decode cX7_isPlain 14 = .ok (.iconst 3, 1) := by decide +kernel
theorem dX7_isPlain_15 : decode cX7_isPlain 15 = .ok (.if_icmp .ge 7, 3) := by decide +kernel
theorem dX7_isPlain_18 : decode cX7_isPlain 18 = .ok (.iconst 1, 1) := by decide +kernel
theorem dX7_isPlain_19 : decode cX7_isPlain 19 = .ok (.goto 4, 3) := by decide +kernel
theorem dX7_isPlain_22 : decode cX7_isPlain 22 = .ok (.iconst 0, 1) := by decide +kernel
theorem dX7_isPlain_23 : decode cX7_isPlain 23 = .ok (.ireturn, 1) := by decide +kernel
theorem dX7_isUnder_0 : decode cX7_isUnder 0 = .ok (.iload_n 1, 1) := by decide +kernel
theorem dX7_isUnder_1 : decode cX7_isUnder 1 = .ok (.iconst 1, 1) := by decide +kernel
theorem dX7_isUnder_2 : decode cX7_isUnder 2 = .ok (.if_icmp .eq 43, 3) := by decide +kernel
theorem dX7_isUnder_5 : decode cX7_isUnder 5 = .ok (.aload_n 0, 1) := by decide +kernel
theorem dX7_isUnder_6 : decode cX7_isUnder 6 = .ok (.getfield 39, 3) := by decide +kernel
theorem dX7_isUnder_9 : decode cX7_isUnder 9 = .ok (.bipush 28, 2) := by decide +kernel
theorem dX7_isUnder_11 : decode cX7_isUnder 11 = .ok (.iload_n 1, 1) := by decide +kernel
theorem dX7_isUnder_12 : decode cX7_isUnder 12 = .ok (.imul, 1) := by decide +kernel
theorem dX7_isUnder_13 : decode cX7_isUnder 13 = .ok (.iload_n 2, 1) := by decide +kernel
theorem dX7_isUnder_14 : decode cX7_isUnder 14 = .ok (.iadd, 1) := by decide +kernel
theorem dX7_isUnder_15 : decode cX7_isUnder 15 = .ok (.iaload, 1) := by decide +kernel
theorem dX7_isUnder_16 : decode cX7_isUnder 16 = .ok (.iconst (-1), 1) := by decide +kernel
theorem dX7_isUnder_17 : decode cX7_isUnder 17 = .ok (.if_icmp .ne 28, 3) := by decide +kernel
theorem dX7_isUnder_20 : decode cX7_isUnder 20 = .ok (.aload_n 0, 1) := by decide +kernel
theorem dX7_isUnder_21 : decode cX7_isUnder 21 = .ok (.getfield 39, 3) := by decide +kernel
theorem dX7_isUnder_24 : decode cX7_isUnder 24 = .ok (.bipush 28, 2) := by decide +kernel
theorem dX7_isUnder_26 : decode cX7_isUnder 26 = .ok (.iload_n 1, 1) := by decide +kernel
theorem dX7_isUnder_27 : decode cX7_isUnder 27 = .ok (.imul, 1) := by decide +kernel
theorem dX7_isUnder_28 : decode cX7_isUnder 28 = .ok (.iconst 1, 1) := by decide +kernel
theorem dX7_isUnder_29 : decode cX7_isUnder 29 = .ok (.iadd, 1) := by decide +kernel
theorem dX7_isUnder_30 : decode cX7_isUnder 30 = .ok (.iaload, 1) := by decide +kernel
theorem dX7_isUnder_31 : decode cX7_isUnder 31 = .ok (.iconst (-1), 1) := by decide +kernel
theorem dX7_isUnder_32 : decode cX7_isUnder 32 = .ok (.if_icmp .ne 13, 3) := by decide +kernel
theorem dX7_isUnder_35 : decode cX7_isUnder 35 = .ok (.aload_n 0, 1) := by decide +kernel
theorem dX7_isUnder_36 : decode cX7_isUnder 36 = .ok (.getfield 39, 3) := by decide +kernel
theorem dX7_isUnder_39 : decode cX7_isUnder 39 = .ok (.iconst 1, 1) := by decide +kernel
theorem dX7_isUnder_40 : decode cX7_isUnder 40 = .ok (.iaload, 1) := by decide +kernel
theorem dX7_isUnder_41 : decode cX7_isUnder 41 = .ok (.iconst (-1), 1) := by decide +kernel
theorem dX7_isUnder_42 : decode cX7_isUnder 42 = .ok (.if_icmp .eq 7, 3) := by decide +kernel
theorem dX7_isUnder_45 : decode cX7_isUnder 45 = .ok (.iconst 1, 1) := by decide +kernel
theorem dX7_isUnder_46 : decode cX7_isUnder 46 = .ok (.goto 4, 3) := by decide +kernel
theorem dX7_isUnder_49 : decode cX7_isUnder 49 = .ok (.iconst 0, 1) := by decide +kernel
theorem dX7_isUnder_50 : decode cX7_isUnder 50 = .ok (.ireturn, 1) := by decide +kernel
theorem dX7_areLike_0 : decode cX7_areLike 0 = .ok (.aload_n 0, 1) := by decide +kernel
theorem dX7_areLike_1 : decode cX7_areLike 1 = .ok (.iload_n 1, 1) := by decide +kernel
theorem dX7_areLike_2 : decode cX7_areLike 2 = .ok (.iload_n 2, 1) := by decide +kernel
theorem dX7_areLike_3 : decode cX7_areLike 3 = .ok (.invokevirtual 180, 3) := by decide +kernel
theorem dX7_areLike_6 : decode cX7_areLike 6 = .ok (.ifCond .eq 16, 3) := by decide +kernel
theorem dX7_areLike_9 : decode cX7_areLike 9 = .ok (.aload_n 0, 1) := by decide +kernel
theorem dX7_areLike_10 : decode cX7_areLike 10 = .ok (.iload_n 2, 1) := by decide +kernel
theorem dX7_areLike_11 : decode cX7_areLike 11 = .ok (.iload_n 1, 1) := by decide +kernel
theorem dX7_areLike_12 : decode cX7_areLike 12 = .ok (.invokevirtual 180, 3) := by decide +kernel
theorem dX7_areLike_15 : decode cX7_areLike 15 = .ok (.ifCond .eq 7, 3) := by decide +kernel
theorem dX7_areLike_18 : decode cX7_areLike 18 = .ok (.iconst 1, 1) := by decide +kernel
theorem dX7_areLike_19 : decode cX7_areLike 19 = .ok (.goto 4, 3) := by decide +kernel
theorem dX7_areLike_22 : decode cX7_areLike 22 = .ok (.iconst 0, 1) := by decide +kernel
theorem dX7_areLike_23 : decode cX7_areLike 23 = .ok (.ireturn, 1) := by decide +kernel
theorem dX7_under_0 : decode cX7_under 0 = .ok (.aload_n 0, 1) := by decide +kernel
theorem dX7_under_1 : decode cX7_under 1 = .ok (.getfield 92, 3) := by decide +kernel
theorem dX7_under_4 : decode cX7_under 4 = .ok (.ifCond .ne 6, 3) := by decide +kernel
theorem dX7_under_7 : decode cX7_under 7 = .ok (.bipush (-103), 2) := by decide +kernel
theorem dX7_under_9 : decode cX7_under 9 = .ok (.ireturn, 1) := by decide +kernel
theorem dX7_under_10 : decode cX7_under 10 = .ok (.aload_n 0, 1) := by decide +kernel
theorem dX7_under_11 : decode cX7_under 11 = .ok (.iload_n 1, 1) := by decide +kernel
theorem dX7_under_12 : decode cX7_under 12 = .ok (.invokevirtual 184, 3) := by decide +kernel
theorem dX7_under_15 : decode cX7_under 15 = .ok (.ifCond .eq 11, 3) := by decide +kernel
theorem dX7_under_18 : decode cX7_under 18 = .ok (.aload_n 0, 1) := by decide +kernel
theorem dX7_under_19 : decode cX7_under 19 = .ok (.iload_n 2, 1) := by decide +kernel
theorem dX7_under_20 : decode cX7_under 20 = .ok (.invokevirtual 184, 3) := by decide +kernel
theorem dX7_under_23 : decode cX7_under 23 = .ok (.ifCond .ne 6, 3) := by decide +kernel
theorem dX7_under_26 : decode cX7_under 26 = .ok (.bipush (-101), 2) := by decide +kernel
theorem dX7_under_28 : decode cX7_under 28 = .ok (.ireturn, 1) := by decide +kernel
theorem dX7_under_29 : decode cX7_under 29 = .ok (.aload_n 0, 1) := by decide +kernel
theorem dX7_under_30 : decode cX7_under 30 = .ok (.iload_n 1, 1) := by decide +kernel
theorem dX7_under_31 : decode cX7_under 31 = .ok (.iload_n 2, 1) := by decide +kernel
theorem dX7_under_32 : decode cX7_under 32 = .ok (.invokevirtual 180, 3) := by decide +kernel
theorem dX7_under_35 : decode cX7_under 35 = .ok (.ifCond .eq 7, 3) := by decide +kernel
theorem dX7_under_38 : decode cX7_under 38 = .ok (.iconst 1, 1) := by decide +kernel
theorem dX7_under_39 : decode cX7_under 39 = .ok (.goto 4, 3) := by decide +kernel
theorem dX7_under_42 : decode cX7_under 42 = .ok (.iconst 0, 1) := by decide +kernel
theorem dX7_under_43 : decode cX7_under 43 = .ok (.ireturn, 1) := by decide +kernel
theorem dX7_leastLike_0 : decode cX7_leastLike 0 = .ok (.iconst 0, 1) := by decide +kernel
theorem dX7_leastLike_1 : decode cX7_leastLike 1 = .ok (.istore_n 2, 1) := by decide +kernel
theorem dX7_leastLike_2 : decode cX7_leastLike 2 = .ok (.aload_n 0, 1) := by decide +kernel
theorem dX7_leastLike_3 : decode cX7_leastLike 3 = .ok (.iload_n 2, 1) := by decide +kernel
theorem dX7_leastLike_4 : decode cX7_leastLike 4 = .ok (.invokevirtual 184, 3) := by decide +kernel
theorem dX7_leastLike_7 : decode cX7_leastLike 7 = .ok (.ifCond .eq 12, 3) := by decide +kernel
theorem dX7_leastLike_10 : decode cX7_leastLike 10 = .ok (.aload_n 0, 1) := by decide +kernel
theorem dX7_leastLike_11 : decode cX7_leastLike 11 = .ok (.iload_n 1, 1) := by decide +kernel
theorem dX7_leastLike_12 : decode cX7_leastLike 12 = .ok (.iload_n 2, 1) := by decide +kernel
theorem dX7_leastLike_13 : decode cX7_leastLike 13 = .ok (.invokevirtual 187, 3) := by decide +kernel
theorem dX7_leastLike_16 : decode cX7_leastLike 16 = .ok (.ifCond .ne 9, 3) := by decide +kernel
theorem dX7_leastLike_19 : decode cX7_leastLike 19 = .ok (.iinc 2 1, 3) := by decide +kernel
theorem dX7_leastLike_22 : decode cX7_leastLike 22 = .ok (.goto (-20), 3) := by decide +kernel
theorem dX7_leastLike_25 : decode cX7_leastLike 25 = .ok (.iload_n 2, 1) := by decide +kernel
theorem dX7_leastLike_26 : decode cX7_leastLike 26 = .ok (.ireturn, 1) := by decide +kernel
theorem dX7_like_0 : decode cX7_like 0 = .ok (.aload_n 0, 1) := by decide +kernel
theorem dX7_like_1 : decode cX7_like 1 = .ok (.getfield 92, 3) := by decide +kernel
theorem dX7_like_4 : decode cX7_like 4 = .ok (.ifCond .ne 6, 3) := by decide +kernel
theorem dX7_like_7 : decode cX7_like 7 = .ok (.bipush (-103), 2) := by decide +kernel
theorem dX7_like_9 : decode cX7_like 9 = .ok (.ireturn, 1) := by decide +kernel
theorem dX7_like_10 : decode cX7_like 10 = .ok (.aload_n 0, 1) := by decide +kernel
theorem dX7_like_11 : decode cX7_like 11 = .ok (.iload_n 1, 1) := by decide +kernel
theorem dX7_like_12 : decode cX7_like 12 = .ok (.invokevirtual 184, 3) := by decide +kernel
theorem dX7_like_15 : decode cX7_like 15 = .ok (.ifCond .eq 11, 3) := by decide +kernel
theorem dX7_like_18 : decode cX7_like 18 = .ok (.aload_n 0, 1) := by decide +kernel
theorem dX7_like_19 : decode cX7_like 19 = .ok (.iload_n 1, 1) := by decide +kernel
theorem dX7_like_20 : decode cX7_like 20 = .ok (.invokevirtual 190, 3) := by decide +kernel
theorem dX7_like_23 : decode cX7_like 23 = .ok (.goto 5, 3) := by decide +kernel
theorem dX7_like_26 : decode cX7_like 26 = .ok (.bipush (-101), 2) := by decide +kernel
theorem dX7_like_28 : decode cX7_like 28 = .ok (.ireturn, 1) := by decide +kernel
theorem dX7_isParent_0 : decode cX7_isParent 0 = .ok (.aload_n 0, 1) := by decide +kernel
theorem dX7_isParent_1 : decode cX7_isParent 1 = .ok (.iload_n 2, 1) := by decide +kernel
theorem dX7_isParent_2 : decode cX7_isParent 2 = .ok (.invokevirtual 184, 3) := by decide +kernel
theorem dX7_isParent_5 : decode cX7_isParent 5 = .ok (.ifCond .eq 30, 3) := by decide +kernel
theorem dX7_isParent_8 : decode cX7_isParent 8 = .ok (.aload_n 0, 1) := by decide +kernel
theorem dX7_isParent_9 : decode cX7_isParent 9 = .ok (.iload_n 1, 1) := by decide +kernel
theorem dX7_isParent_10 : decode cX7_isParent 10 = .ok (.iload_n 2, 1) := by decide +kernel
theorem dX7_isParent_11 : decode cX7_isParent 11 = .ok (.invokevirtual 187, 3) := by decide +kernel
theorem dX7_isParent_14 : decode cX7_isParent 14 = .ok (.ifCond .ne 21, 3) := by decide +kernel
theorem dX7_isParent_17 : decode cX7_isParent 17 = .ok (.aload_n 0, 1) := by decide +kernel
theorem dX7_isParent_18 : decode cX7_isParent 18 = .ok (.iload_n 1, 1) := by decide +kernel
theorem dX7_isParent_19 : decode cX7_isParent 19 = .ok (.iload_n 2, 1) := by decide +kernel
theorem dX7_isParent_20 : decode cX7_isParent 20 = .ok (.invokevirtual 180, 3) := by decide +kernel
theorem dX7_isParent_23 : decode cX7_isParent 23 = .ok (.ifCond .eq 12, 3) := by decide +kernel
theorem dX7_isParent_26 : decode cX7_isParent 26 = .ok (.aload_n 0, 1) := by decide +kernel
theorem dX7_isParent_27 : decode cX7_isParent 27 = .ok (.iload_n 2, 1) := by decide +kernel
theorem dX7_isParent_28 : decode cX7_isParent 28 = .ok (.invokevirtual 190, 3) := by decide +kernel
theorem dX7_isParent_31 : decode cX7_isParent 31 = .ok (.iload_n 2, 1) := by decide +kernel
theorem dX7_isParent_32 : decode cX7_isParent 32 = .ok (.if_icmp .eq 5, 3) := by decide +kernel
theorem dX7_isParent_35 : decode cX7_isParent 35 = .ok (.iconst 0, 1) := by decide +kernel
theorem dX7_isParent_36 : decode cX7_isParent 36 = .ok (.ireturn, 1) := by decide +kernel
theorem dX7_isParent_37 : decode cX7_isParent 37 = .ok (.iconst 0, 1) := by decide +kernel
theorem dX7_isParent_38 : decode cX7_isParent 38 = .ok (.istore_n 3, 1) := by decide +kernel
theorem dX7_isParent_39 : decode cX7_isParent 39 = .ok (.iload_n 3, 1) := by decide +kernel
theorem dX7_isParent_40 : decode cX7_isParent 40 = .ok (.aload_n 0, 1) := by decide +kernel
theorem dX7_isParent_41 : decode cX7_isParent 41 = .ok (.getfield 84, 3) := by decide +kernel
theorem dX7_isParent_44 : decode cX7_isParent 44 = .ok (.if_icmp .ge 55, 3) := by decide +kernel
theorem dX7_isParent_47 : decode cX7_isParent 47 = .ok (.aload_n 0, 1) := by decide +kernel
theorem dX7_isParent_48 : decode cX7_isParent 48 = .ok (.iload_n 3, 1) := by decide +kernel
theorem dX7_isParent_49 : decode cX7_isParent 49 = .ok (.invokevirtual 184, 3) := by decide +kernel
theorem dX7_isParent_52 : decode cX7_isParent 52 = .ok (.ifCond .eq 41, 3) := by decide +kernel
theorem dX7_isParent_55 : decode cX7_isParent 55 = .ok (.aload_n 0, 1) := by decide +kernel
theorem dX7_isParent_56 : decode cX7_isParent 56 = .ok (.iload_n 1, 1) := by decide +kernel
theorem dX7_isParent_57 : decode cX7_isParent 57 = .ok (.iload_n 3, 1) := by decide +kernel
theorem dX7_isParent_58 : decode cX7_isParent 58 = .ok (.invokevirtual 180, 3) := by decide +kernel
theorem dX7_isParent_61 : decode cX7_isParent 61 = .ok (.ifCond .eq 32, 3) := by decide +kernel
theorem dX7_isParent_64 : decode cX7_isParent 64 = .ok (.aload_n 0, 1) := by decide +kernel
theorem dX7_isParent_65 : decode cX7_isParent 65 = .ok (.iload_n 3, 1) := by decide +kernel
theorem dX7_isParent_66 : decode cX7_isParent 66 = .ok (.iload_n 2, 1) := by decide +kernel
theorem dX7_isParent_67 : decode cX7_isParent 67 = .ok (.invokevirtual 180, 3) := by decide +kernel
theorem dX7_isParent_70 : decode cX7_isParent 70 = .ok (.ifCond .eq 23, 3) := by decide +kernel
theorem dX7_isParent_73 : decode cX7_isParent 73 = .ok (.aload_n 0, 1) := by decide +kernel
theorem dX7_isParent_74 : decode cX7_isParent 74 = .ok (.iload_n 3, 1) := by decide +kernel
theorem dX7_isParent_75 : decode cX7_isParent 75 = .ok (.iload_n 1, 1) := by decide +kernel
theorem dX7_isParent_76 : decode cX7_isParent 76 = .ok (.invokevirtual 187, 3) := by decide +kernel
theorem dX7_isParent_79 : decode cX7_isParent 79 = .ok (.ifCond .ne 14, 3) := by decide +kernel
theorem dX7_isParent_82 : decode cX7_isParent 82 = .ok (.aload_n 0, 1) := by decide +kernel
theorem dX7_isParent_83 : decode cX7_isParent 83 = .ok (.iload_n 3, 1) := by decide +kernel
theorem dX7_isParent_84 : decode cX7_isParent 84 = .ok (.iload_n 2, 1) := by decide +kernel
theorem dX7_isParent_85 : decode cX7_isParent 85 = .ok (.invokevirtual 187, 3) := by decide +kernel
theorem dX7_isParent_88 : decode cX7_isParent 88 = .ok (.ifCond .ne 5, 3) := by decide +kernel
theorem dX7_isParent_91 : decode cX7_isParent 91 = .ok (.iconst 0, 1) := by decide +kernel
theorem dX7_isParent_92 : decode cX7_isParent 92 = .ok (.ireturn, 1) := by decide +kernel
theorem dX7_isParent_93 : decode cX7_isParent 93 = .ok (.iinc 3 1, 3) := by decide +kernel
theorem dX7_isParent_96 : decode cX7_isParent 96 = .ok (.goto (-57), 3) := by decide +kernel
theorem dX7_isParent_99 : decode cX7_isParent 99 = .ok (.iconst 1, 1) := by decide +kernel
theorem dX7_isParent_100 : decode cX7_isParent 100 = .ok (.ireturn, 1) := by decide +kernel
theorem dX7_parent_0 : decode cX7_parent 0 = .ok (.aload_n 0, 1) := by decide +kernel
theorem dX7_parent_1 : decode cX7_parent 1 = .ok (.getfield 92, 3) := by decide +kernel
theorem dX7_parent_4 : decode cX7_parent 4 = .ok (.ifCond .ne 6, 3) := by decide +kernel
theorem dX7_parent_7 : decode cX7_parent 7 = .ok (.bipush (-103), 2) := by decide +kernel
theorem dX7_parent_9 : decode cX7_parent 9 = .ok (.ireturn, 1) := by decide +kernel
