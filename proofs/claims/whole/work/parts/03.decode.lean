theorem dX6_tellsApart_52 : decode cX6_tellsApart 52 = .ok (.istore 6, 2) := by decide +kernel
theorem dX6_tellsApart_54 : decode cX6_tellsApart 54 = .ok (.iload 6, 2) := by decide +kernel
theorem dX6_tellsApart_56 : decode cX6_tellsApart 56 = .ok (.iload 4, 2) := by decide +kernel
theorem dX6_tellsApart_58 : decode cX6_tellsApart 58 = .ok (.if_icmp .ge 25, 3) := by decide +kernel
theorem dX6_tellsApart_61 : decode cX6_tellsApart 61 = .ok (.aload_n 0, 1) := by decide +kernel
theorem dX6_tellsApart_62 : decode cX6_tellsApart 62 = .ok (.aload_n 0, 1) := by decide +kernel
theorem dX6_tellsApart_63 : decode cX6_tellsApart 63 = .ok (.getfield 43, 3) := by decide +kernel
theorem dX6_tellsApart_66 : decode cX6_tellsApart 66 = .ok (.iload 6, 2) := by decide +kernel
theorem dX6_tellsApart_68 : decode cX6_tellsApart 68 = .ok (.iaload, 1) := by decide +kernel
theorem dX6_tellsApart_69 : decode cX6_tellsApart 69 = .ok (.iload 5, 2) := by decide +kernel
theorem dX6_tellsApart_71 : decode cX6_tellsApart 71 = .ok (.invokevirtual 119, 3) := by decide +kernel
theorem dX6_tellsApart_74 : decode cX6_tellsApart 74 = .ok (.ifCond .ne 9, 3) := by decide +kernel
theorem dX6_tellsApart_77 : decode cX6_tellsApart 77 = .ok (.iinc 6 1, 3) := by decide +kernel
theorem dX6_tellsApart_80 : decode cX6_tellsApart 80 = .ok (.goto (-26), 3) := by decide +kernel
theorem dX6_tellsApart_83 : decode cX6_tellsApart 83 = .ok (.iload 6, 2) := by decide +kernel
theorem dX6_tellsApart_85 : decode cX6_tellsApart 85 = .ok (.iload 4, 2) := by decide +kernel
theorem dX6_tellsApart_87 : decode cX6_tellsApart 87 = .ok (.if_icmp .ne 25, 3) := by decide +kernel
theorem dX6_tellsApart_90 : decode cX6_tellsApart 90 = .ok (.iload 4, 2) := by decide +kernel
theorem dX6_tellsApart_92 : decode cX6_tellsApart 92 = .ok (.iload_n 2, 1) := by decide +kernel
theorem dX6_tellsApart_93 : decode cX6_tellsApart 93 = .ok (.if_icmp .ne 7, 3) := by decide +kernel
theorem dX6_tellsApart_96 : decode cX6_tellsApart 96 = .ok (.iload_n 2, 1) := by decide +kernel
theorem dX6_tellsApart_97 : decode cX6_tellsApart 97 = .ok (.iconst 1, 1) := by decide +kernel
theorem dX6_tellsApart_98 : decode cX6_tellsApart 98 = .ok (.iadd, 1) := by decide +kernel
theorem dX6_tellsApart_99 : decode cX6_tellsApart 99 = .ok (.ireturn, 1) := by decide +kernel
theorem dX6_tellsApart_100 : decode cX6_tellsApart 100 = .ok (.aload_n 0, 1) := by decide +kernel
theorem dX6_tellsApart_101 : decode cX6_tellsApart 101 = .ok (.getfield 43, 3) := by decide +kernel
theorem dX6_tellsApart_104 : decode cX6_tellsApart 104 = .ok (.iload 4, 2) := by decide +kernel
theorem dX6_tellsApart_106 : decode cX6_tellsApart 106 = .ok (.iload 5, 2) := by decide +kernel
theorem dX6_tellsApart_108 : decode cX6_tellsApart 108 = .ok (.iastore, 1) := by decide +kernel
theorem dX6_tellsApart_109 : decode cX6_tellsApart 109 = .ok (.iinc 4 1, 3) := by decide +kernel
theorem dX6_tellsApart_112 : decode cX6_tellsApart 112 = .ok (.aload_n 0, 1) := by decide +kernel
theorem dX6_tellsApart_113 : decode cX6_tellsApart 113 = .ok (.getfield 40, 3) := by decide +kernel
theorem dX6_tellsApart_116 : decode cX6_tellsApart 116 = .ok (.iload 5, 2) := by decide +kernel
theorem dX6_tellsApart_118 : decode cX6_tellsApart 118 = .ok (.iload 6, 2) := by decide +kernel
theorem dX6_tellsApart_120 : decode cX6_tellsApart 120 = .ok (.iastore, 1) := by decide +kernel
theorem dX6_tellsApart_121 : decode cX6_tellsApart 121 = .ok (.iinc 5 1, 3) := by decide +kernel
theorem dX6_tellsApart_124 : decode cX6_tellsApart 124 = .ok (.goto (-79), 3) := by decide +kernel
theorem dX6_tellsApart_127 : decode cX6_tellsApart 127 = .ok (.iconst 0, 1) := by decide +kernel
theorem dX6_tellsApart_128 : decode cX6_tellsApart 128 = .ok (.istore 5, 2) := by decide +kernel
theorem dX6_tellsApart_130 : decode cX6_tellsApart 130 = .ok (.iload 5, 2) := by decide +kernel
theorem dX6_tellsApart_132 : decode cX6_tellsApart 132 = .ok (.iload_n 1, 1) := by decide +kernel
theorem dX6_tellsApart_133 : decode cX6_tellsApart 133 = .ok (.if_icmp .ge 23, 3) := by decide +kernel
theorem dX6_tellsApart_136 : decode cX6_tellsApart 136 = .ok (.aload_n 0, 1) := by decide +kernel
theorem dX6_tellsApart_137 : decode cX6_tellsApart 137 = .ok (.getfield 37, 3) := by decide +kernel
theorem dX6_tellsApart_140 : decode cX6_tellsApart 140 = .ok (.iload 5, 2) := by decide +kernel
theorem dX6_tellsApart_142 : decode cX6_tellsApart 142 = .ok (.aload_n 0, 1) := by decide +kernel
theorem dX6_tellsApart_143 : decode cX6_tellsApart 143 = .ok (.getfield 40, 3) := by decide +kernel
theorem dX6_tellsApart_146 : decode cX6_tellsApart 146 = .ok (.iload 5, 2) := by decide +kernel
theorem dX6_tellsApart_148 : decode cX6_tellsApart 148 = .ok (.iaload, 1) := by decide +kernel
theorem dX6_tellsApart_149 : decode cX6_tellsApart 149 = .ok (.iastore, 1) := by decide +kernel
theorem dX6_tellsApart_150 : decode cX6_tellsApart 150 = .ok (.iinc 5 1, 3) := by decide +kernel
theorem dX6_tellsApart_153 : decode cX6_tellsApart 153 = .ok (.goto (-23), 3) := by decide +kernel
theorem dX6_tellsApart_156 : decode cX6_tellsApart 156 = .ok (.iload 4, 2) := by decide +kernel
theorem dX6_tellsApart_158 : decode cX6_tellsApart 158 = .ok (.iload_n 3, 1) := by decide +kernel
theorem dX6_tellsApart_159 : decode cX6_tellsApart 159 = .ok (.if_icmp .ne 6, 3) := by decide +kernel
theorem dX6_tellsApart_162 : decode cX6_tellsApart 162 = .ok (.iload 4, 2) := by decide +kernel
theorem dX6_tellsApart_164 : decode cX6_tellsApart 164 = .ok (.ireturn, 1) := by decide +kernel
theorem dX6_tellsApart_165 : decode cX6_tellsApart 165 = .ok (.iload 4, 2) := by decide +kernel
theorem dX6_tellsApart_167 : decode cX6_tellsApart 167 = .ok (.istore_n 3, 1) := by decide +kernel
theorem dX6_tellsApart_168 : decode cX6_tellsApart 168 = .ok (.goto (-129), 3) := by decide +kernel
theorem dX6_makes_0 : decode cX6_makes 0 = .ok (.aload_n 0, 1) := by decide +kernel
theorem dX6_makes_1 : decode cX6_makes 1 = .ok (.iload_n 1, 1) := by decide +kernel
theorem dX6_makes_2 : decode cX6_makes 2 = .ok (.invokevirtual 123, 3) := by decide +kernel
theorem dX6_makes_5 : decode cX6_makes 5 = .ok (.istore_n 2, 1) := by decide +kernel
theorem dX6_makes_6 : decode cX6_makes 6 = .ok (.aload_n 0, 1) := by decide +kernel
theorem dX6_makes_7 : decode cX6_makes 7 = .ok (.aload_n 0, 1) := by decide +kernel
theorem dX6_makes_8 : decode cX6_makes 8 = .ok (.iload_n 2, 1) := by decide +kernel
theorem dX6_makes_9 : decode cX6_makes 9 = .ok (.bipush 40, 2) := by decide +kernel
theorem dX6_makes_11 : decode cX6_makes 11 = .ok (.invokevirtual 126, 3) := by decide +kernel
theorem dX6_makes_14 : decode cX6_makes 14 = .ok (.putfield 129, 3) := by decide +kernel
theorem dX6_makes_17 : decode cX6_makes 17 = .ok (.iconst 0, 1) := by decide +kernel
theorem dX6_makes_18 : decode cX6_makes 18 = .ok (.istore_n 3, 1) := by decide +kernel
theorem dX6_makes_19 : decode cX6_makes 19 = .ok (.iload_n 3, 1) := by decide +kernel
theorem dX6_makes_20 : decode cX6_makes 20 = .ok (.aload_n 0, 1) := by decide +kernel
theorem dX6_makes_21 : decode cX6_makes 21 = .ok (.getfield 129, 3) := by decide +kernel
theorem dX6_makes_24 : decode cX6_makes 24 = .ok (.if_icmp .ge 98, 3) := by decide +kernel
theorem dX6_makes_27 : decode cX6_makes 27 = .ok (.aload_n 0, 1) := by decide +kernel
theorem dX6_makes_28 : decode cX6_makes 28 = .ok (.getfield 129, 3) := by decide +kernel
theorem dX6_makes_31 : decode cX6_makes 31 = .ok (.bipush 40, 2) := by decide +kernel
theorem dX6_makes_33 : decode cX6_makes 33 = .ok (.if_icmp .gt 89, 3) := by decide +kernel
theorem dX6_makes_36 : decode cX6_makes 36 = .ok (.aload_n 0, 1) := by decide +kernel
theorem dX6_makes_37 : decode cX6_makes 37 = .ok (.getfield 28, 3) := by decide +kernel
theorem dX6_makes_40 : decode cX6_makes 40 = .ok (.aload_n 0, 1) := by decide +kernel
theorem dX6_makes_41 : decode cX6_makes 41 = .ok (.getfield 31, 3) := by decide +kernel
theorem dX6_makes_44 : decode cX6_makes 44 = .ok (.aload_n 0, 1) := by decide +kernel
theorem dX6_makes_45 : decode cX6_makes 45 = .ok (.getfield 43, 3) := by decide +kernel
theorem dX6_makes_48 : decode cX6_makes 48 = .ok (.iload_n 3, 1) := by decide +kernel
theorem dX6_makes_49 : decode cX6_makes 49 = .ok (.iaload, 1) := by decide +kernel
theorem dX6_makes_50 : decode cX6_makes 50 = .ok (.iaload, 1) := by decide +kernel
theorem dX6_makes_51 : decode cX6_makes 51 = .ok (.iaload, 1) := by decide +kernel
theorem dX6_makes_52 : decode cX6_makes 52 = .ok (.invokestatic 102, 3) := by decide +kernel
theorem dX6_makes_55 : decode cX6_makes 55 = .ok (.istore 4, 2) := by decide +kernel
theorem dX6_makes_57 : decode cX6_makes 57 = .ok (.iload 4, 2) := by decide +kernel
theorem dX6_makes_59 : decode cX6_makes 59 = .ok (.invokestatic 113, 3) := by decide +kernel
theorem dX6_makes_62 : decode cX6_makes 62 = .ok (.istore 5, 2) := by decide +kernel
theorem dX6_makes_64 : decode cX6_makes 64 = .ok (.aload_n 0, 1) := by decide +kernel
theorem dX6_makes_65 : decode cX6_makes 65 = .ok (.getfield 46, 3) := by decide +kernel
theorem dX6_makes_68 : decode cX6_makes 68 = .ok (.iload_n 3, 1) := by decide +kernel
theorem dX6_makes_69 : decode cX6_makes 69 = .ok (.iload 4, 2) := by decide +kernel
theorem dX6_makes_71 : decode cX6_makes 71 = .ok (.iload 5, 2) := by decide +kernel
theorem dX6_makes_73 : decode cX6_makes 73 = .ok (.ifCond .le 17, 3) := by decide +kernel
theorem dX6_makes_76 : decode cX6_makes 76 = .ok (.aload_n 0, 1) := by decide +kernel
theorem dX6_makes_77 : decode cX6_makes 77 = .ok (.aload_n 0, 1) := by decide +kernel
theorem dX6_makes_78 : decode cX6_makes 78 = .ok (.getfield 43, 3) := by decide +kernel
theorem dX6_makes_81 : decode cX6_makes 81 = .ok (.iload_n 3, 1) := by decide +kernel
theorem dX6_makes_82 : decode cX6_makes 82 = .ok (.iaload, 1) := by decide +kernel
theorem dX6_makes_83 : decode cX6_makes 83 = .ok (.iconst 0, 1) := by decide +kernel
theorem dX6_makes_84 : decode cX6_makes 84 = .ok (.invokevirtual 116, 3) := by decide +kernel
theorem dX6_makes_87 : decode cX6_makes 87 = .ok (.goto 4, 3) := by decide +kernel
theorem dX6_makes_90 : decode cX6_makes 90 = .ok (.iconst 0, 1) := by decide +kernel
theorem dX6_makes_91 : decode cX6_makes 91 = .ok (.iload 5, 2) := by decide +kernel
theorem dX6_makes_93 : decode cX6_makes 93 = .ok (.iconst 1, 1) := by decide +kernel
theorem dX6_makes_94 : decode cX6_makes 94 = .ok (.if_icmp .le 17, 3) := by decide +kernel
theorem dX6_makes_97 : decode cX6_makes 97 = .ok (.aload_n 0, 1) := by decide +kernel
theorem dX6_makes_98 : decode cX6_makes 98 = .ok (.aload_n 0, 1) := by decide +kernel
theorem dX6_makes_99 : decode cX6_makes 99 = .ok (.getfield 43, 3) := by decide +kernel
theorem dX6_makes_102 : decode cX6_makes 102 = .ok (.iload_n 3, 1) := by decide +kernel
theorem dX6_makes_103 : decode cX6_makes 103 = .ok (.iaload, 1) := by decide +kernel
theorem dX6_makes_104 : decode cX6_makes 104 = .ok (.iconst 1, 1) := by decide +kernel
theorem dX6_makes_105 : decode cX6_makes 105 = .ok (.invokevirtual 116, 3) := by decide +kernel
theorem dX6_makes_108 : decode cX6_makes 108 = .ok (.goto 4, 3) := by decide +kernel
theorem dX6_makes_111 : decode cX6_makes 111 = .ok (.iconst 0, 1) := by decide +kernel
theorem dX6_makes_112 : decode cX6_makes 112 = .ok (.invokestatic 98, 3) := by decide +kernel
theorem dX6_makes_115 : decode cX6_makes 115 = .ok (.iastore, 1) := by decide +kernel
theorem dX6_makes_116 : decode cX6_makes 116 = .ok (.iinc 3 1, 3) := by decide +kernel
theorem dX6_makes_119 : decode cX6_makes 119 = .ok (.goto (-100), 3) := by decide +kernel
theorem dX6_makes_122 : decode cX6_makes 122 = .ok (.aload_n 0, 1) := by decide +kernel
theorem dX6_makes_123 : decode cX6_makes 123 = .ok (.getfield 129, 3) := by decide +kernel
theorem dX6_makes_126 : decode cX6_makes 126 = .ok (.ireturn, 1) := by decide +kernel
theorem dX6_keeps_0 : decode cX6_keeps 0 = .ok (.aload_n 0, 1) := by decide +kernel
theorem dX6_keeps_1 : decode cX6_keeps 1 = .ok (.getfield 132, 3) := by decide +kernel
theorem dX6_keeps_4 : decode cX6_keeps 4 = .ok (.bipush 8, 2) := by decide +kernel
theorem dX6_keeps_6 : decode cX6_keeps 6 = .ok (.if_icmp .ne 73, 3) := by decide +kernel
theorem dX6_keeps_9 : decode cX6_keeps 9 = .ok (.iconst 0, 1) := by decide +kernel
theorem dX6_keeps_10 : decode cX6_keeps 10 = .ok (.istore_n 1, 1) := by decide +kernel
theorem dX6_keeps_11 : decode cX6_keeps 11 = .ok (.iload_n 1, 1) := by decide +kernel
theorem dX6_keeps_12 : decode cX6_keeps 12 = .ok (.sipush 2240, 3) := by decide +kernel
theorem dX6_keeps_15 : decode cX6_keeps 15 = .ok (.if_icmp .ge 25, 3) := by decide +kernel
theorem dX6_keeps_18 : decode cX6_keeps 18 = .ok (.aload_n 0, 1) := by decide +kernel
theorem dX6_keeps_19 : decode cX6_keeps 19 = .ok (.getfield 16, 3) := by decide +kernel
theorem dX6_keeps_22 : decode cX6_keeps 22 = .ok (.iload_n 1, 1) := by decide +kernel
theorem dX6_keeps_23 : decode cX6_keeps 23 = .ok (.aload_n 0, 1) := by decide +kernel
theorem dX6_keeps_24 : decode cX6_keeps 24 = .ok (.getfield 16, 3) := by decide +kernel
theorem dX6_keeps_27 : decode cX6_keeps 27 = .ok (.iload_n 1, 1) := by decide +kernel
theorem dX6_keeps_28 : decode cX6_keeps 28 = .ok (.sipush 320, 3) := by decide +kernel
theorem dX6_keeps_31 : decode cX6_keeps 31 = .ok (.iadd, 1) := by decide +kernel
theorem dX6_keeps_32 : decode cX6_keeps 32 = .ok (.iaload, 1) := by decide +kernel
theorem dX6_keeps_33 : decode cX6_keeps 33 = .ok (.iastore, 1) := by decide +kernel
theorem dX6_keeps_34 : decode cX6_keeps 34 = .ok (.iinc 1 1, 3) := by decide +kernel
theorem dX6_keeps_37 : decode cX6_keeps 37 = .ok (.goto (-26), 3) := by decide +kernel
theorem dX6_keeps_40 : decode cX6_keeps 40 = .ok (.iconst 0, 1) := by decide +kernel
theorem dX6_keeps_41 : decode cX6_keeps 41 = .ok (.istore_n 1, 1) := by decide +kernel
theorem dX6_keeps_42 : decode cX6_keeps 42 = .ok (.iload_n 1, 1) := by decide +kernel
theorem dX6_keeps_43 : decode cX6_keeps 43 = .ok (.bipush 56, 2) := by decide +kernel
theorem dX6_keeps_45 : decode cX6_keeps 45 = .ok (.if_icmp .ge 24, 3) := by decide +kernel
theorem dX6_keeps_48 : decode cX6_keeps 48 = .ok (.aload_n 0, 1) := by decide +kernel
theorem dX6_keeps_49 : decode cX6_keeps 49 = .ok (.getfield 19, 3) := by decide +kernel
theorem dX6_keeps_52 : decode cX6_keeps 52 = .ok (.iload_n 1, 1) := by decide +kernel
theorem dX6_keeps_53 : decode cX6_keeps 53 = .ok (.aload_n 0, 1) := by decide +kernel
theorem dX6_keeps_54 : decode cX6_keeps 54 = .ok (.getfield 19, 3) := by decide +kernel
theorem dX6_keeps_57 : decode cX6_keeps 57 = .ok (.iload_n 1, 1) := by decide +kernel
theorem dX6_keeps_58 : decode cX6_keeps 58 = .ok (.bipush 8, 2) := by decide +kernel
theorem dX6_keeps_60 : decode cX6_keeps 60 = .ok (.iadd, 1) := by decide +kernel
theorem dX6_keeps_61 : decode cX6_keeps 61 = .ok (.iaload, 1) := by decide +kernel
theorem dX6_keeps_62 : decode cX6_keeps 62 = .ok (.iastore, 1) := by decide +kernel
theorem dX6_keeps_63 : decode cX6_keeps 63 = .ok (.iinc 1 1, 3) := by decide +kernel
theorem dX6_keeps_66 : decode cX6_keeps 66 = .ok (.goto (-24), 3) := by decide +kernel
theorem dX6_keeps_69 : decode cX6_keeps 69 = .ok (.aload_n 0, 1) := by decide +kernel
theorem dX6_keeps_70 : decode cX6_keeps 70 = .ok (.dup, 1) := by decide +kernel
theorem dX6_keeps_71 : decode cX6_keeps 71 = .ok (.getfield 132, 3) := by decide +kernel
theorem dX6_keeps_74 : decode cX6_keeps 74 = .ok (.iconst 1, 1) := by decide +kernel
theorem dX6_keeps_75 : decode cX6_keeps 75 = .ok (.isub, 1) := by decide +kernel
theorem dX6_keeps_76 : decode cX6_keeps 76 = .ok (.putfield 132, 3) := by decide +kernel
theorem dX6_keeps_79 : decode cX6_keeps 79 = .ok (.iconst 0, 1) := by decide +kernel
theorem dX6_keeps_80 : decode cX6_keeps 80 = .ok (.istore_n 1, 1) := by decide +kernel
theorem dX6_keeps_81 : decode cX6_keeps 81 = .ok (.iload_n 1, 1) := by decide +kernel
theorem dX6_keeps_82 : decode cX6_keeps 82 = .ok (.sipush 320, 3) := by decide +kernel
theorem dX6_keeps_85 : decode cX6_keeps 85 = .ok (.if_icmp .ge 30, 3) := by decide +kernel
theorem dX6_keeps_88 : decode cX6_keeps 88 = .ok (.aload_n 0, 1) := by decide +kernel
theorem dX6_keeps_89 : decode cX6_keeps 89 = .ok (.getfield 16, 3) := by decide +kernel
theorem dX6_keeps_92 : decode cX6_keeps 92 = .ok (.sipush 320, 3) := by decide +kernel
theorem dX6_keeps_95 : decode cX6_keeps 95 = .ok (.aload_n 0, 1) := by decide +kernel
theorem dX6_keeps_96 : decode cX6_keeps 96 = .ok (.getfield 132, 3) := by decide +kernel
theorem dX6_keeps_99 : decode cX6_keeps 99 = .ok (.imul, 1) := by decide +kernel
theorem dX6_keeps_100 : decode cX6_keeps 100 = .ok (.iload_n 1, 1) := by decide +kernel
theorem dX6_keeps_101 : decode cX6_keeps 101 = .ok (.iadd, 1) := by decide +kernel
theorem dX6_keeps_102 : decode cX6_keeps 102 = .ok (.aload_n 0, 1) := by decide +kernel
theorem dX6_keeps_103 : decode cX6_keeps 103 = .ok (.getfield 13, 3) := by decide +kernel
theorem dX6_keeps_106 : decode cX6_keeps 106 = .ok (.iload_n 1, 1) := by decide +kernel
theorem dX6_keeps_107 : decode cX6_keeps 107 = .ok (.iaload, 1) := by decide +kernel
theorem dX6_keeps_108 : decode cX6_keeps 108 = .ok (.iastore, 1) := by decide +kernel
theorem dX6_keeps_109 : decode cX6_keeps 109 = .ok (.iinc 1 1, 3) := by decide +kernel
theorem dX6_keeps_112 : decode cX6_keeps 112 = .ok (.goto (-31), 3) := by decide +kernel
theorem dX6_keeps_115 : decode cX6_keeps 115 = .ok (.iconst 0, 1) := by decide +kernel
theorem dX6_keeps_116 : decode cX6_keeps 116 = .ok (.istore_n 1, 1) := by decide +kernel
theorem dX6_keeps_117 : decode cX6_keeps 117 = .ok (.iload_n 1, 1) := by decide +kernel
theorem dX6_keeps_118 : decode cX6_keeps 118 = .ok (.bipush 8, 2) := by decide +kernel
theorem dX6_keeps_120 : decode cX6_keeps 120 = .ok (.if_icmp .ge 29, 3) := by decide +kernel
theorem dX6_keeps_123 : decode cX6_keeps 123 = .ok (.aload_n 0, 1) := by decide +kernel
theorem dX6_keeps_124 : decode cX6_keeps 124 = .ok (.getfield 19, 3) := by decide +kernel
theorem dX6_keeps_127 : decode cX6_keeps 127 = .ok (.bipush 8, 2) := by decide +kernel
theorem dX6_keeps_129 : decode cX6_keeps 129 = .ok (.aload_n 0, 1) := by decide +kernel
theorem dX6_keeps_130 : decode cX6_keeps 130 = .ok (.getfield 132, 3) := by decide +kernel
theorem dX6_keeps_133 : decode cX6_keeps 133 = .ok (.imul, 1) := by decide +kernel
theorem dX6_keeps_134 : decode cX6_keeps 134 = .ok (.iload_n 1, 1) := by decide +kernel
theorem dX6_keeps_135 : decode cX6_keeps 135 = .ok (.iadd, 1) := by decide +kernel
theorem dX6_keeps_136 : decode cX6_keeps 136 = .ok (.aload_n 0, 1) := by decide +kernel
theorem dX6_keeps_137 : decode cX6_keeps 137 = .ok (.getfield 7, 3) := by decide +kernel
theorem dX6_keeps_140 : decode cX6_keeps 140 = .ok (.iload_n 1, 1) := by decide +kernel
theorem dX6_keeps_141 : decode cX6_keeps 141 = .ok (.iaload, 1) := by decide +kernel
theorem dX6_keeps_142 : decode cX6_keeps 142 = .ok (.iastore, 1) := by decide +kernel
theorem dX6_keeps_143 : decode cX6_keeps 143 = .ok (.iinc 1 1, 3) := by decide +kernel
theorem dX6_keeps_146 : decode cX6_keeps 146 = .ok (.goto (-29), 3) := by decide +kernel
theorem dX6_keeps_149 : decode cX6_keeps 149 = .ok (.aload_n 0, 1) := by decide +kernel
theorem dX6_keeps_150 : decode cX6_keeps 150 = .ok (.dup, 1) := by decide +kernel
theorem dX6_keeps_151 : decode cX6_keeps 151 = .ok (.getfield 132, 3) := by decide +kernel
theorem dX6_keeps_154 : decode cX6_keeps 154 = .ok (.iconst 1, 1) := by decide +kernel
theorem dX6_keeps_155 : decode cX6_keeps 155 = .ok (.iadd, 1) := by decide +kernel
theorem dX6_keeps_156 : decode cX6_keeps 156 = .ok (.putfield 132, 3) := by decide +kernel
theorem dX6_keeps_159 : decode cX6_keeps 159 = .ok (.return_, 1) := by decide +kernel
theorem dX6_gives_0 : decode cX6_gives 0 = .ok (.aload_n 0, 1) := by decide +kernel
theorem dX6_gives_1 : decode cX6_gives 1 = .ok (.iload_n 1, 1) := by decide +kernel
theorem dX6_gives_2 : decode cX6_gives 2 = .ok (.invokevirtual 135, 3) := by decide +kernel
theorem dX6_gives_5 : decode cX6_gives 5 = .ok (.bipush 40, 2) := by decide +kernel
theorem dX6_gives_7 : decode cX6_gives 7 = .ok (.if_icmp .le 10, 3) := by decide +kernel
theorem dX6_gives_10 : decode cX6_gives 10 = .ok (.aload_n 0, 1) := by decide +kernel
theorem dX6_gives_11 : decode cX6_gives 11 = .ok (.bipush (-4), 2) := by decide +kernel
theorem dX6_gives_13 : decode cX6_gives 13 = .ok (.invokevirtual 138, 3) := by decide +kernel
theorem dX6_gives_16 : decode cX6_gives 16 = .ok (.ireturn, 1) := by decide +kernel
theorem dX6_gives_17 : decode cX6_gives 17 = .ok (.aload_n 0, 1) := by decide +kernel
theorem dX6_gives_18 : decode cX6_gives 18 = .ok (.invokevirtual 141, 3) := by decide +kernel
theorem dX6_gives_21 : decode cX6_gives 21 = .ok (.iconst 0, 1) := by decide +kernel
theorem dX6_gives_22 : decode cX6_gives 22 = .ok (.istore_n 3, 1) := by decide +kernel
theorem dX6_gives_23 : decode cX6_gives 23 = .ok (.iload_n 3, 1) := by decide +kernel
theorem dX6_gives_24 : decode cX6_gives 24 = .ok (.aload_n 0, 1) := by decide +kernel
theorem dX6_gives_25 : decode cX6_gives 25 = .ok (.getfield 129, 3) := by decide +kernel
theorem dX6_gives_28 : decode cX6_gives 28 = .ok (.if_icmp .ge 26, 3) := by decide +kernel
theorem dX6_gives_31 : decode cX6_gives 31 = .ok (.aload_n 0, 1) := by decide +kernel
theorem dX6_gives_32 : decode cX6_gives 32 = .ok (.getfield 13, 3) := by decide +kernel
theorem dX6_gives_35 : decode cX6_gives 35 = .ok (.bipush 40, 2) := by decide +kernel
theorem dX6_gives_37 : decode cX6_gives 37 = .ok (.iload_n 2, 1) := by decide +kernel
theorem dX6_gives_38 : decode cX6_gives 38 = .ok (.imul, 1) := by decide +kernel
theorem dX6_gives_39 : decode cX6_gives 39 = .ok (.iload_n 3, 1) := by decide +kernel
theorem dX6_gives_40 : decode cX6_gives 40 = .ok (.iadd, 1) := by decide +kernel
theorem dX6_gives_41 : decode cX6_gives 41 = .ok (.aload_n 0, 1) := by decide +kernel
theorem dX6_gives_42 : decode cX6_gives 42 = .ok (.getfield 46, 3) := by decide +kernel
theorem dX6_gives_45 : decode cX6_gives 45 = .ok (.iload_n 3, 1) := by decide +kernel
theorem dX6_gives_46 : decode cX6_gives 46 = .ok (.iaload, 1) := by decide +kernel
theorem dX6_gives_47 : decode cX6_gives 47 = .ok (.iastore, 1) := by decide +kernel
theorem dX6_gives_48 : decode cX6_gives 48 = .ok (.iinc 3 1, 3) := by decide +kernel
theorem dX6_gives_51 : decode cX6_gives 51 = .ok (.goto (-28), 3) := by decide +kernel
theorem dX6_gives_54 : decode cX6_gives 54 = .ok (.aload_n 0, 1) := by decide +kernel
theorem dX6_gives_55 : decode cX6_gives 55 = .ok (.getfield 7, 3) := by decide +kernel
theorem dX6_gives_58 : decode cX6_gives 58 = .ok (.iload_n 2, 1) := by decide +kernel
theorem dX6_gives_59 : decode cX6_gives 59 = .ok (.aload_n 0, 1) := by decide +kernel
theorem dX6_gives_60 : decode cX6_gives 60 = .ok (.getfield 129, 3) := by decide +kernel
theorem dX6_gives_63 : decode cX6_gives 63 = .ok (.iastore, 1) := by decide +kernel
theorem dX6_gives_64 : decode cX6_gives 64 = .ok (.aload_n 0, 1) := by decide +kernel
theorem dX6_gives_65 : decode cX6_gives 65 = .ok (.getfield 129, 3) := by decide +kernel
theorem dX6_gives_68 : decode cX6_gives 68 = .ok (.ireturn, 1) := by decide +kernel
theorem dX6_type_0 : decode cX6_type 0 = .ok (.iload_n 1, 1) := by decide +kernel
theorem dX6_type_1 : decode cX6_type 1 = .ok (.iconst 0, 1) := by decide +kernel
theorem dX6_type_2 : decode cX6_type 2 = .ok (.bipush 127, 2) := by decide +kernel
theorem dX6_type_4 : decode cX6_type 4 = .ok (.invokestatic 86, 3) := by decide +kernel
theorem dX6_type_7 : decode cX6_type 7 = .ok (.ifCond .ne 10, 3) := by decide +kernel
theorem dX6_type_10 : decode cX6_type 10 = .ok (.aload_n 0, 1) := by decide +kernel
theorem dX6_type_11 : decode cX6_type 11 = .ok (.bipush (-2), 2) := by decide +kernel
theorem dX6_type_13 : decode cX6_type 13 = .ok (.invokevirtual 138, 3) := by decide +kernel
theorem dX6_type_16 : decode cX6_type 16 = .ok (.ireturn, 1) := by decide +kernel
theorem dX6_type_17 : decode cX6_type 17 = .ok (.aload_n 0, 1) := by decide +kernel
theorem dX6_type_18 : decode cX6_type 18 = .ok (.getfield 144, 3) := by decide +kernel
theorem dX6_type_21 : decode cX6_type 21 = .ok (.bipush 120, 2) := by decide +kernel
theorem dX6_type_23 : decode cX6_type 23 = .ok (.if_icmp .ne 10, 3) := by decide +kernel
theorem dX6_type_26 : decode cX6_type 26 = .ok (.aload_n 0, 1) := by decide +kernel
theorem dX6_type_27 : decode cX6_type 27 = .ok (.bipush (-4), 2) := by decide +kernel
theorem dX6_type_29 : decode cX6_type 29 = .ok (.invokevirtual 138, 3) := by decide +kernel
theorem dX6_type_32 : decode cX6_type 32 = .ok (.ireturn, 1) := by decide +kernel
theorem dX6_type_33 : decode cX6_type 33 = .ok (.aload_n 0, 1) := by decide +kernel
theorem dX6_type_34 : decode cX6_type 34 = .ok (.getfield 25, 3) := by decide +kernel
theorem dX6_type_37 : decode cX6_type 37 = .ok (.aload_n 0, 1) := by decide +kernel
theorem dX6_type_38 : decode cX6_type 38 = .ok (.getfield 144, 3) := by decide +kernel
theorem dX6_type_41 : decode cX6_type 41 = .ok (.iload_n 1, 1) := by decide +kernel
theorem dX6_type_42 : decode cX6_type 42 = .ok (.iastore, 1) := by decide +kernel
theorem dX6_type_43 : decode cX6_type 43 = .ok (.aload_n 0, 1) := by decide +kernel
theorem dX6_type_44 : decode cX6_type 44 = .ok (.dup, 1) := by decide +kernel
theorem dX6_type_45 : decode cX6_type 45 = .ok (.getfield 144, 3) := by decide +kernel
theorem dX6_type_48 : decode cX6_type 48 = .ok (.iconst 1, 1) := by decide +kernel
theorem dX6_type_49 : decode cX6_type 49 = .ok (.iadd, 1) := by decide +kernel
theorem dX6_type_50 : decode cX6_type 50 = .ok (.putfield 144, 3) := by decide +kernel
theorem dX6_type_53 : decode cX6_type 53 = .ok (.aload_n 0, 1) := by decide +kernel
theorem dX6_type_54 : decode cX6_type 54 = .ok (.getfield 144, 3) := by decide +kernel
theorem dX6_type_57 : decode cX6_type 57 = .ok (.ireturn, 1) := by decide +kernel
theorem dX6_clear_0 : decode cX6_clear 0 = .ok (.aload_n 0, 1) := by decide +kernel
theorem dX6_clear_1 : decode cX6_clear 1 = .ok (.getfield 144, 3) := by decide +kernel
theorem dX6_clear_4 : decode cX6_clear 4 = .ok (.istore_n 1, 1) := by decide +kernel
theorem dX6_clear_5 : decode cX6_clear 5 = .ok (.aload_n 0, 1) := by decide +kernel
theorem dX6_clear_6 : decode cX6_clear 6 = .ok (.iconst 0, 1) := by decide +kernel
theorem dX6_clear_7 : decode cX6_clear 7 = .ok (.putfield 144, 3) := by decide +kernel
theorem dX6_clear_10 : decode cX6_clear 10 = .ok (.iload_n 1, 1) := by decide +kernel
theorem dX6_clear_11 : decode cX6_clear 11 = .ok (.ireturn, 1) := by decide +kernel
theorem dX6_byteAt_0 : decode cX6_byteAt 0 = .ok (.iload_n 1, 1) := by decide +kernel
theorem dX6_byteAt_1 : decode cX6_byteAt 1 = .ok (.aload_n 0, 1) := by decide +kernel
theorem dX6_byteAt_2 : decode cX6_byteAt 2 = .ok (.getfield 144, 3) := by decide +kernel
theorem dX6_byteAt_5 : decode cX6_byteAt 5 = .ok (.if_icmp .ge 12, 3) := by decide +kernel
theorem dX6_byteAt_8 : decode cX6_byteAt 8 = .ok (.aload_n 0, 1) := by decide +kernel
theorem dX6_byteAt_9 : decode cX6_byteAt 9 = .ok (.getfield 25, 3) := by decide +kernel
theorem dX6_byteAt_12 : decode cX6_byteAt 12 = .ok (.iload_n 1, 1) := by decide +kernel
theorem dX6_byteAt_13 : decode cX6_byteAt 13 = .ok (.iaload, 1) := by decide +kernel
theorem dX6_byteAt_14 : decode cX6_byteAt 14 = .ok (.goto 4, 3) := by decide +kernel
theorem dX6_byteAt_17 : decode cX6_byteAt 17 = .ok (.iconst (-1), 1) := by decide +kernel
theorem dX6_byteAt_18 : decode cX6_byteAt 18 = .ok (.ireturn, 1) := by decide +kernel
theorem dX6_skips_0 : decode cX6_skips 0 = .ok (.aload_n 0, 1) := by decide +kernel
theorem dX6_skips_1 : decode cX6_skips 1 = .ok (.aload_n 0, 1) := by decide +kernel
theorem dX6_skips_2 : decode cX6_skips 2 = .ok (.getfield 147, 3) := by decide +kernel
theorem dX6_skips_5 : decode cX6_skips 5 = .ok (.invokevirtual 150, 3) := by decide +kernel
theorem dX6_skips_8 : decode cX6_skips 8 = .ok (.bipush 32, 2) := by decide +kernel
theorem dX6_skips_10 : decode cX6_skips 10 = .ok (.if_icmp .ne 16, 3) := by decide +kernel
theorem dX6_skips_13 : decode cX6_skips 13 = .ok (.aload_n 0, 1) := by decide +kernel
theorem dX6_skips_14 : decode cX6_skips 14 = .ok (.dup, 1) := by decide +kernel
theorem dX6_skips_15 : decode cX6_skips 15 = .ok (.getfield 147, 3) := by decide +kernel
theorem dX6_skips_18 : decode cX6_skips 18 = .ok (.iconst 1, 1) := by decide +kernel
theorem dX6_skips_19 : decode cX6_skips 19 = .ok (.iadd, 1) := by decide +kernel
theorem dX6_skips_20 : decode cX6_skips 20 = .ok (.putfield 147, 3) := by decide +kernel
theorem dX6_skips_23 : decode cX6_skips 23 = .ok (.goto (-23), 3) := by decide +kernel
theorem dX6_skips_26 : decode cX6_skips 26 = .ok (.return_, 1) := by decide +kernel
theorem dX6_does_0 : decode cX6_does 0 = .ok (.aload_n 0, 1) := by decide +kernel
theorem dX6_does_1 : decode cX6_does 1 = .ok (.getfield 153, 3) := by decide +kernel
theorem dX6_does_4 : decode cX6_does 4 = .ok (.ifCond .le 117, 3) := by decide +kernel
theorem dX6_does_7 : decode cX6_does 7 = .ok (.aload_n 0, 1) := by decide +kernel
theorem dX6_does_8 : decode cX6_does 8 = .ok (.getfield 70, 3) := by decide +kernel
theorem dX6_does_11 : decode cX6_does 11 = .ok (.aload_n 0, 1) := by decide +kernel
theorem dX6_does_12 : decode cX6_does 12 = .ok (.getfield 153, 3) := by decide +kernel
theorem dX6_does_15 : decode cX6_does 15 = .ok (.iconst 1, 1) := by decide +kernel
theorem dX6_does_16 : decode cX6_does 16 = .ok (.isub, 1) := by decide +kernel
theorem dX6_does_17 : decode cX6_does 17 = .ok (.iaload, 1) := by decide +kernel
theorem dX6_does_18 : decode cX6_does 18 = .ok (.bipush 42, 2) := by decide +kernel
theorem dX6_does_20 : decode cX6_does 20 = .ok (.if_icmp .eq 23, 3) := by decide +kernel
theorem dX6_does_23 : decode cX6_does 23 = .ok (.iload_n 1, 1) := by decide +kernel
theorem dX6_does_24 : decode cX6_does 24 = .ok (.ifCond .ne 97, 3) := by decide +kernel
theorem dX6_does_27 : decode cX6_does 27 = .ok (.aload_n 0, 1) := by decide +kernel
theorem dX6_does_28 : decode cX6_does 28 = .ok (.getfield 70, 3) := by decide +kernel
theorem dX6_does_31 : decode cX6_does 31 = .ok (.aload_n 0, 1) := by decide +kernel
theorem dX6_does_32 : decode cX6_does 32 = .ok (.getfield 153, 3) := by decide +kernel
theorem dX6_does_35 : decode cX6_does 35 = .ok (.iconst 1, 1) := by decide +kernel
theorem dX6_does_36 : decode cX6_does 36 = .ok (.isub, 1) := by decide +kernel
theorem dX6_does_37 : decode cX6_does 37 = .ok (.iaload, 1) := by decide +kernel
theorem dX6_does_38 : decode cX6_does 38 = .ok (.bipush 62, 2) := by decide +kernel
theorem dX6_does_40 : decode cX6_does 40 = .ok (.if_icmp .ne 81, 3) := by decide +kernel
theorem dX6_does_43 : decode cX6_does 43 = .ok (.aload_n 0, 1) := by decide +kernel
theorem dX6_does_44 : decode cX6_does 44 = .ok (.dup, 1) := by decide +kernel
theorem dX6_does_45 : decode cX6_does 45 = .ok (.getfield 153, 3) := by decide +kernel
theorem dX6_does_48 : decode cX6_does 48 = .ok (.iconst 1, 1) := by decide +kernel
theorem dX6_does_49 : decode cX6_does 49 = .ok (.isub, 1) := by decide +kernel
theorem dX6_does_50 : decode cX6_does 50 = .ok (.putfield 153, 3) := by decide +kernel
theorem dX6_does_53 : decode cX6_does 53 = .ok (.aload_n 0, 1) := by decide +kernel
theorem dX6_does_54 : decode cX6_does 54 = .ok (.dup, 1) := by decide +kernel
theorem dX6_does_55 : decode cX6_does 55 = .ok (.getfield 156, 3) := by decide +kernel
theorem dX6_does_58 : decode cX6_does 58 = .ok (.iconst 1, 1) := by decide +kernel
theorem dX6_does_59 : decode cX6_does 59 = .ok (.isub, 1) := by decide +kernel
theorem dX6_does_60 : decode cX6_does 60 = .ok (.putfield 156, 3) := by decide +kernel
theorem dX6_does_63 : decode cX6_does 63 = .ok (.aload_n 0, 1) := by decide +kernel
theorem dX6_does_64 : decode cX6_does 64 = .ok (.getfield 73, 3) := by decide +kernel
theorem dX6_does_67 : decode cX6_does 67 = .ok (.aload_n 0, 1) := by decide +kernel
theorem dX6_does_68 : decode cX6_does 68 = .ok (.getfield 156, 3) := by decide +kernel
theorem dX6_does_71 : decode cX6_does 71 = .ok (.iconst 1, 1) := by decide +kernel
theorem dX6_does_72 : decode cX6_does 72 = .ok (.isub, 1) := by decide +kernel
theorem dX6_does_73 : decode cX6_does 73 = .ok (.aload_n 0, 1) := by decide +kernel
theorem dX6_does_74 : decode cX6_does 74 = .ok (.aload_n 0, 1) := by decide +kernel
theorem dX6_does_75 : decode cX6_does 75 = .ok (.getfield 70, 3) := by decide +kernel
theorem dX6_does_78 : decode cX6_does 78 = .ok (.aload_n 0, 1) := by decide +kernel
theorem dX6_does_79 : decode cX6_does 79 = .ok (.getfield 153, 3) := by decide +kernel
theorem dX6_does_82 : decode cX6_does 82 = .ok (.iaload, 1) := by decide +kernel
theorem dX6_does_83 : decode cX6_does 83 = .ok (.bipush 42, 2) := by decide +kernel
theorem dX6_does_85 : decode cX6_does 85 = .ok (.if_icmp .ne 7, 3) := by decide +kernel
theorem dX6_does_88 : decode cX6_does 88 = .ok (.iconst 5, 1) := by decide +kernel
theorem dX6_does_89 : decode cX6_does 89 = .ok (.goto 5, 3) := by decide +kernel
theorem dX6_does_92 : decode cX6_does 92 = .ok (.bipush 6, 2) := by decide +kernel
theorem dX6_does_94 : decode cX6_does 94 = .ok (.aload_n 0, 1) := by decide +kernel
theorem dX6_does_95 : decode cX6_does 95 = .ok (.getfield 73, 3) := by decide +kernel
theorem dX6_does_98 : decode cX6_does 98 = .ok (.aload_n 0, 1) := by decide +kernel
theorem dX6_does_99 : decode cX6_does 99 = .ok (.getfield 156, 3) := by decide +kernel
theorem dX6_does_102 : decode cX6_does 102 = .ok (.iconst 1, 1) := by decide +kernel
theorem dX6_does_103 : decode cX6_does 103 = .ok (.isub, 1) := by decide +kernel
theorem dX6_does_104 : decode cX6_does 104 = .ok (.iaload, 1) := by decide +kernel
theorem dX6_does_105 : decode cX6_does 105 = .ok (.aload_n 0, 1) := by decide +kernel
theorem dX6_does_106 : decode cX6_does 106 = .ok (.getfield 73, 3) := by decide +kernel
theorem dX6_does_109 : decode cX6_does 109 = .ok (.aload_n 0, 1) := by decide +kernel
theorem dX6_does_110 : decode cX6_does 110 = .ok (.getfield 156, 3) := by decide +kernel
theorem dX6_does_113 : decode cX6_does 113 = .ok (.iaload, 1) := by decide +kernel
theorem dX6_does_114 : decode cX6_does 114 = .ok (.invokevirtual 110, 3) := by decide +kernel
theorem dX6_does_117 : decode cX6_does 117 = .ok (.iastore, 1) := by decide +kernel
theorem dX6_does_118 : decode cX6_does 118 = .ok (.goto (-118), 3) := by decide +kernel
theorem dX6_does_121 : decode cX6_does 121 = .ok (.return_, 1) := by decide +kernel
theorem dX6_waits_0 : decode cX6_waits 0 = .ok (.aload_n 0, 1) := by decide +kernel
theorem dX6_waits_1 : decode cX6_waits 1 = .ok (.getfield 73, 3) := by decide +kernel
theorem dX6_waits_4 : decode cX6_waits 4 = .ok (.aload_n 0, 1) := by decide +kernel
theorem dX6_waits_5 : decode cX6_waits 5 = .ok (.getfield 156, 3) := by decide +kernel
theorem dX6_waits_8 : decode cX6_waits 8 = .ok (.iload_n 1, 1) := by decide +kernel
theorem dX6_waits_9 : decode cX6_waits 9 = .ok (.iastore, 1) := by decide +kernel
theorem dX6_waits_10 : decode cX6_waits 10 = .ok (.aload_n 0, 1) := by decide +kernel
theorem dX6_waits_11 : decode cX6_waits 11 = .ok (.dup, 1) := by decide +kernel
theorem dX6_waits_12 : decode cX6_waits 12 = .ok (.getfield 156, 3) := by decide +kernel
theorem dX6_waits_15 : decode cX6_waits 15 = .ok (.iconst 1, 1) := by decide +kernel
theorem dX6_waits_16 : decode cX6_waits 16 = .ok (.iadd, 1) := by decide +kernel
theorem dX6_waits_17 : decode cX6_waits 17 = .ok (.putfield 156, 3) := by decide +kernel
theorem dX6_waits_20 : decode cX6_waits 20 = .ok (.return_, 1) := by decide +kernel
theorem dX6_opens_0 : decode cX6_opens 0 = .ok (.aload_n 0, 1) := by decide +kernel
theorem dX6_opens_1 : decode cX6_opens 1 = .ok (.getfield 70, 3) := by decide +kernel
theorem dX6_opens_4 : decode cX6_opens 4 = .ok (.aload_n 0, 1) := by decide +kernel
theorem dX6_opens_5 : decode cX6_opens 5 = .ok (.getfield 153, 3) := by decide +kernel
theorem dX6_opens_8 : decode cX6_opens 8 = .ok (.iload_n 1, 1) := by decide +kernel
theorem dX6_opens_9 : decode cX6_opens 9 = .ok (.iastore, 1) := by decide +kernel
theorem dX6_opens_10 : decode cX6_opens 10 = .ok (.aload_n 0, 1) := by decide +kernel
theorem dX6_opens_11 : decode cX6_opens 11 = .ok (.dup, 1) := by decide +kernel
theorem dX6_opens_12 : decode cX6_opens 12 = .ok (.getfield 153, 3) := by decide +kernel
theorem dX6_opens_15 : decode cX6_opens 15 = .ok (.iconst 1, 1) := by decide +kernel
theorem dX6_opens_16 : decode cX6_opens 16 = .ok (.iadd, 1) := by decide +kernel
theorem dX6_opens_17 : decode cX6_opens 17 = .ok (.putfield 153, 3) := by decide +kernel
theorem dX6_opens_20 : decode cX6_opens 20 = .ok (.return_, 1) := by decide +kernel
theorem dX6_bracket_0 : decode cX6_bracket 0 = .ok (.iconst 0, 1) := by decide +kernel
theorem dX6_bracket_1 : decode cX6_bracket 1 = .ok (.istore_n 1, 1) := by decide +kernel
theorem dX6_bracket_2 : decode cX6_bracket 2 = .ok (.iconst 0, 1) := by decide +kernel
theorem dX6_bracket_3 : decode cX6_bracket 3 = .ok (.istore_n 2, 1) := by decide +kernel
theorem dX6_bracket_4 : decode cX6_bracket 4 = .ok (.iload_n 2, 1) := by decide +kernel
theorem dX6_bracket_5 : decode cX6_bracket 5 = .ok (.aload_n 0, 1) := by decide +kernel
theorem dX6_bracket_6 : decode cX6_bracket 6 = .ok (.getfield 153, 3) := by decide +kernel
theorem dX6_bracket_9 : decode cX6_bracket 9 = .ok (.if_icmp .ge 42, 3) := by decide +kernel
theorem dX6_bracket_12 : decode cX6_bracket 12 = .ok (.aload_n 0, 1) := by decide +kernel
theorem dX6_bracket_13 : decode cX6_bracket 13 = .ok (.getfield 70, 3) := by decide +kernel
theorem dX6_bracket_16 : decode cX6_bracket 16 = .ok (.iload_n 2, 1) := by decide +kernel
theorem dX6_bracket_17 : decode cX6_bracket 17 = .ok (.iaload, 1) := by decide +kernel
theorem dX6_bracket_18 : decode cX6_bracket 18 = .ok (.bipush 40, 2) := by decide +kernel
theorem dX6_bracket_20 : decode cX6_bracket 20 = .ok (.if_icmp .eq 14, 3) := by decide +kernel
theorem dX6_bracket_23 : decode cX6_bracket 23 = .ok (.aload_n 0, 1) := by decide +kernel
theorem dX6_bracket_24 : decode cX6_bracket 24 = .ok (.getfield 70, 3) := by decide +kernel
theorem dX6_bracket_27 : decode cX6_bracket 27 = .ok (.iload_n 2, 1) := by decide +kernel
theorem dX6_bracket_28 : decode cX6_bracket 28 = .ok (.iaload, 1) := by decide +kernel
theorem dX6_bracket_29 : decode cX6_bracket 29 = .ok (.bipush 91, 2) := by decide +kernel
theorem dX6_bracket_31 : decode cX6_bracket 31 = .ok (.if_icmp .ne 12, 3) := by decide +kernel
theorem dX6_bracket_34 : decode cX6_bracket 34 = .ok (.aload_n 0, 1) := by decide +kernel
theorem dX6_bracket_35 : decode cX6_bracket 35 = .ok (.getfield 70, 3) := by decide +kernel
theorem dX6_bracket_38 : decode cX6_bracket 38 = .ok (.iload_n 2, 1) := by decide +kernel
theorem dX6_bracket_39 : decode cX6_bracket 39 = .ok (.iaload, 1) := by decide +kernel
theorem dX6_bracket_40 : decode cX6_bracket 40 = .ok (.goto 4, 3) := by decide +kernel
theorem dX6_bracket_43 : decode cX6_bracket 43 = .ok (.iload_n 1, 1) := by decide +kernel
theorem dX6_bracket_44 : decode cX6_bracket 44 = .ok (.istore_n 1, 1) := by decide +kernel
theorem dX6_bracket_45 : decode cX6_bracket 45 = .ok (.iinc 2 1, 3) := by decide +kernel
theorem dX6_bracket_48 : decode cX6_bracket 48 = .ok (.goto (-44), 3) := by decide +kernel
theorem dX6_bracket_51 : decode cX6_bracket 51 = .ok (.iload_n 1, 1) := by decide +kernel
theorem dX6_bracket_52 : decode cX6_bracket 52 = .ok (.ireturn, 1) := by decide +kernel
theorem dX6_readsTerm_0 : decode cX6_readsTerm 0 = .ok (.aload_n 0, 1) := by decide +kernel
theorem dX6_readsTerm_1 : decode cX6_readsTerm 1 = .ok (.iconst 0, 1) := by decide +kernel
theorem dX6_readsTerm_2 : decode cX6_readsTerm 2 = .ok (.putfield 153, 3) := by decide +kernel
theorem dX6_readsTerm_5 : decode cX6_readsTerm 5 = .ok (.aload_n 0, 1) := by decide +kernel
theorem dX6_readsTerm_6 : decode cX6_readsTerm 6 = .ok (.iconst 0, 1) := by decide +kernel
theorem dX6_readsTerm_7 : decode cX6_readsTerm 7 = .ok (.putfield 156, 3) := by decide +kernel
theorem dX6_readsTerm_10 : decode cX6_readsTerm 10 = .ok (.iconst 1, 1) := by decide +kernel
theorem dX6_readsTerm_11 : decode cX6_readsTerm 11 = .ok (.istore_n 1, 1) := by decide +kernel
theorem dX6_readsTerm_12 : decode cX6_readsTerm 12 = .ok (.aload_n 0, 1) := by decide +kernel
theorem dX6_readsTerm_13 : decode cX6_readsTerm 13 = .ok (.invokevirtual 159, 3) := by decide +kernel
theorem dX6_readsTerm_16 : decode cX6_readsTerm 16 = .ok (.aload_n 0, 1) := by decide +kernel
theorem dX6_readsTerm_17 : decode cX6_readsTerm 17 = .ok (.aload_n 0, 1) := by decide +kernel
theorem dX6_readsTerm_18 : decode cX6_readsTerm 18 = .ok (.getfield 147, 3) := by decide +kernel
theorem dX6_readsTerm_21 : decode cX6_readsTerm 21 = .ok (.invokevirtual 150, 3) := by decide +kernel
theorem dX6_readsTerm_24 : decode cX6_readsTerm 24 = .ok (.istore_n 2, 1) := by decide +kernel
theorem dX6_readsTerm_25 : decode cX6_readsTerm 25 = .ok (.iload_n 1, 1) := by decide +kernel
theorem dX6_readsTerm_26 : decode cX6_readsTerm 26 = .ok (.ifCond .eq 33, 3) := by decide +kernel
theorem dX6_readsTerm_29 : decode cX6_readsTerm 29 = .ok (.iload_n 2, 1) := by decide +kernel
theorem dX6_readsTerm_30 : decode cX6_readsTerm 30 = .ok (.bipush 48, 2) := by decide +kernel
theorem dX6_readsTerm_32 : decode cX6_readsTerm 32 = .ok (.bipush 51, 2) := by decide +kernel
theorem dX6_readsTerm_34 : decode cX6_readsTerm 34 = .ok (.invokestatic 86, 3) := by decide +kernel
theorem dX6_readsTerm_37 : decode cX6_readsTerm 37 = .ok (.ifCond .eq 22, 3) := by decide +kernel
theorem dX6_readsTerm_40 : decode cX6_readsTerm 40 = .ok (.aload_n 0, 1) := by decide +kernel
theorem dX6_readsTerm_41 : decode cX6_readsTerm 41 = .ok (.aload_n 0, 1) := by decide +kernel
theorem dX6_readsTerm_42 : decode cX6_readsTerm 42 = .ok (.iload_n 2, 1) := by decide +kernel
theorem dX6_readsTerm_43 : decode cX6_readsTerm 43 = .ok (.bipush 48, 2) := by decide +kernel
theorem dX6_readsTerm_45 : decode cX6_readsTerm 45 = .ok (.isub, 1) := by decide +kernel
theorem dX6_readsTerm_46 : decode cX6_readsTerm 46 = .ok (.iconst 0, 1) := by decide +kernel
theorem dX6_readsTerm_47 : decode cX6_readsTerm 47 = .ok (.iconst 0, 1) := by decide +kernel
theorem dX6_readsTerm_48 : decode cX6_readsTerm 48 = .ok (.invokevirtual 110, 3) := by decide +kernel
theorem dX6_readsTerm_51 : decode cX6_readsTerm 51 = .ok (.invokevirtual 162, 3) := by decide +kernel
theorem dX6_readsTerm_54 : decode cX6_readsTerm 54 = .ok (.iconst 0, 1) := by decide +kernel
theorem dX6_readsTerm_55 : decode cX6_readsTerm 55 = .ok (.istore_n 1, 1) := by decide +kernel
theorem dX6_readsTerm_56 : decode cX6_readsTerm 56 = .ok (.goto 278, 3) := by decide +kernel
theorem dX6_readsTerm_59 : decode cX6_readsTerm 59 = .ok (.iload_n 1, 1) := by decide +kernel
theorem dX6_readsTerm_60 : decode cX6_readsTerm 60 = .ok (.ifCond .eq 57, 3) := by decide +kernel
theorem dX6_readsTerm_63 : decode cX6_readsTerm 63 = .ok (.iload_n 2, 1) := by decide +kernel
theorem dX6_readsTerm_64 : decode cX6_readsTerm 64 = .ok (.bipush 97, 2) := by decide +kernel
theorem dX6_readsTerm_66 : decode cX6_readsTerm 66 = .ok (.bipush 104, 2) := by decide +kernel
theorem dX6_readsTerm_68 : decode cX6_readsTerm 68 = .ok (.invokestatic 86, 3) := by decide +kernel
theorem dX6_readsTerm_71 : decode cX6_readsTerm 71 = .ok (.ifCond .eq 46, 3) := by decide +kernel
theorem dX6_readsTerm_74 : decode cX6_readsTerm 74 = .ok (.aload_n 0, 1) := by decide +kernel
theorem dX6_readsTerm_75 : decode cX6_readsTerm 75 = .ok (.aload_n 0, 1) := by decide +kernel
theorem dX6_readsTerm_76 : decode cX6_readsTerm 76 = .ok (.bipush 7, 2) := by decide +kernel
theorem dX6_readsTerm_78 : decode cX6_readsTerm 78 = .ok (.iload_n 2, 1) := by decide +kernel
theorem dX6_readsTerm_79 : decode cX6_readsTerm 79 = .ok (.bipush 97, 2) := by decide +kernel
theorem dX6_readsTerm_81 : decode cX6_readsTerm 81 = .ok (.isub, 1) := by decide +kernel
theorem dX6_readsTerm_82 : decode cX6_readsTerm 82 = .ok (.iconst 0, 1) := by decide +kernel
theorem dX6_readsTerm_83 : decode cX6_readsTerm 83 = .ok (.invokevirtual 110, 3) := by decide +kernel
theorem dX6_readsTerm_86 : decode cX6_readsTerm 86 = .ok (.invokevirtual 162, 3) := by decide +kernel
theorem dX6_readsTerm_89 : decode cX6_readsTerm 89 = .ok (.aload_n 0, 1) := by decide +kernel
theorem dX6_readsTerm_90 : decode cX6_readsTerm 90 = .ok (.getfield 67, 3) := by decide +kernel
theorem dX6_readsTerm_93 : decode cX6_readsTerm 93 = .ok (.aload_n 0, 1) := by decide +kernel
theorem dX6_readsTerm_94 : decode cX6_readsTerm 94 = .ok (.getfield 166, 3) := by decide +kernel
theorem dX6_readsTerm_97 : decode cX6_readsTerm 97 = .ok (.aload_n 0, 1) := by decide +kernel
theorem dX6_readsTerm_98 : decode cX6_readsTerm 98 = .ok (.getfield 147, 3) := by decide +kernel
theorem dX6_readsTerm_101 : decode cX6_readsTerm 101 = .ok (.iastore, 1) := by decide +kernel
theorem dX6_readsTerm_102 : decode cX6_readsTerm 102 = .ok (.aload_n 0, 1) := by decide +kernel
theorem dX6_readsTerm_103 : decode cX6_readsTerm 103 = .ok (.dup, 1) := by decide +kernel
theorem dX6_readsTerm_104 : decode cX6_readsTerm 104 = .ok (.getfield 166, 3) := by decide +kernel
theorem dX6_readsTerm_107 : decode cX6_readsTerm 107 = .ok (.iconst 1, 1) := by decide +kernel
theorem dX6_readsTerm_108 : decode cX6_readsTerm 108 = .ok (.iadd, 1) := by decide +kernel
theorem dX6_readsTerm_109 : decode cX6_readsTerm 109 = .ok (.putfield 166, 3) := by decide +kernel
theorem dX6_readsTerm_112 : decode cX6_readsTerm 112 = .ok (.iconst 0, 1) := by decide +kernel
theorem dX6_readsTerm_113 : decode cX6_readsTerm 113 = .ok (.istore_n 1, 1) := by decide +kernel
theorem dX6_readsTerm_114 : decode cX6_readsTerm 114 = .ok (.goto 220, 3) := by decide +kernel
theorem dX6_readsTerm_117 : decode cX6_readsTerm 117 = .ok (.iload_n 1, 1) := by decide +kernel
theorem dX6_readsTerm_118 : decode cX6_readsTerm 118 = .ok (.ifCond .eq 23, 3) := by decide +kernel
theorem dX6_readsTerm_121 : decode cX6_readsTerm 121 = .ok (.iload_n 2, 1) := by decide +kernel
theorem dX6_readsTerm_122 : decode cX6_readsTerm 122 = .ok (.bipush 40, 2) := by decide +kernel
theorem dX6_readsTerm_124 : decode cX6_readsTerm 124 = .ok (.if_icmp .eq 9, 3) := by decide +kernel
theorem dX6_readsTerm_127 : decode cX6_readsTerm 127 = .ok (.iload_n 2, 1) := by decide +kernel
theorem dX6_readsTerm_128 : decode cX6_readsTerm 128 = .ok (.bipush 91, 2) := by decide +kernel
theorem dX6_readsTerm_130 : decode cX6_readsTerm 130 = .ok (.if_icmp .ne 11, 3) := by decide +kernel
theorem dX6_readsTerm_133 : decode cX6_readsTerm 133 = .ok (.aload_n 0, 1) := by decide +kernel
theorem dX6_readsTerm_134 : decode cX6_readsTerm 134 = .ok (.iload_n 2, 1) := by decide +kernel
theorem dX6_readsTerm_135 : decode cX6_readsTerm 135 = .ok (.invokevirtual 169, 3) := by decide +kernel
theorem dX6_readsTerm_138 : decode cX6_readsTerm 138 = .ok (.goto 196, 3) := by decide +kernel
theorem dX6_readsTerm_141 : decode cX6_readsTerm 141 = .ok (.iload_n 1, 1) := by decide +kernel
theorem dX6_readsTerm_142 : decode cX6_readsTerm 142 = .ok (.ifCond .ne 24, 3) := by decide +kernel
theorem dX6_readsTerm_145 : decode cX6_readsTerm 145 = .ok (.iload_n 2, 1) := by decide +kernel
theorem dX6_readsTerm_146 : decode cX6_readsTerm 146 = .ok (.bipush 42, 2) := by decide +kernel
theorem dX6_readsTerm_148 : decode cX6_readsTerm 148 = .ok (.if_icmp .ne 18, 3) := by decide +kernel
theorem dX6_readsTerm_151 : decode cX6_readsTerm 151 = .ok (.aload_n 0, 1) := by decide +kernel
theorem dX6_readsTerm_152 : decode cX6_readsTerm 152 = .ok (.iconst 1, 1) := by decide +kernel
theorem dX6_readsTerm_153 : decode cX6_readsTerm 153 = .ok (.invokevirtual 172, 3) := by decide +kernel
theorem dX6_readsTerm_156 : decode cX6_readsTerm 156 = .ok (.aload_n 0, 1) := by decide +kernel
theorem dX6_readsTerm_157 : decode cX6_readsTerm 157 = .ok (.iload_n 2, 1) := by decide +kernel
theorem dX6_readsTerm_158 : decode cX6_readsTerm 158 = .ok (.invokevirtual 169, 3) := by decide +kernel
theorem dX6_readsTerm_161 : decode cX6_readsTerm 161 = .ok (.iconst 1, 1) := by decide +kernel
theorem dX6_readsTerm_162 : decode cX6_readsTerm 162 = .ok (.istore_n 1, 1) := by decide +kernel
theorem dX6_readsTerm_163 : decode cX6_readsTerm 163 = .ok (.goto 171, 3) := by decide +kernel
theorem dX6_readsTerm_166 : decode cX6_readsTerm 166 = .ok (.iload_n 1, 1) := by decide +kernel
theorem dX6_readsTerm_167 : decode cX6_readsTerm 167 = .ok (.ifCond .ne 24, 3) := by decide +kernel
theorem dX6_readsTerm_170 : decode cX6_readsTerm 170 = .ok (.iload_n 2, 1) := by decide +kernel
theorem dX6_readsTerm_171 : decode cX6_readsTerm 171 = .ok (.bipush 62, 2) := by decide +kernel
theorem dX6_readsTerm_173 : decode cX6_readsTerm 173 = .ok (.if_icmp .ne 18, 3) := by decide +kernel
theorem dX6_readsTerm_176 : decode cX6_readsTerm 176 = .ok (.aload_n 0, 1) := by decide +kernel
theorem dX6_readsTerm_177 : decode cX6_readsTerm 177 = .ok (.iconst 1, 1) := by decide +kernel
theorem dX6_readsTerm_178 : decode cX6_readsTerm 178 = .ok (.invokevirtual 172, 3) := by decide +kernel
theorem dX6_readsTerm_181 : decode cX6_readsTerm 181 = .ok (.aload_n 0, 1) := by decide +kernel
theorem dX6_readsTerm_182 : decode cX6_readsTerm 182 = .ok (.iload_n 2, 1) := by decide +kernel
theorem dX6_readsTerm_183 : decode cX6_readsTerm 183 = .ok (.invokevirtual 169, 3) := by decide +kernel
theorem dX6_readsTerm_186 : decode cX6_readsTerm 186 = .ok (.iconst 1, 1) := by decide +kernel
theorem dX6_readsTerm_187 : decode cX6_readsTerm 187 = .ok (.istore_n 1, 1) := by decide +kernel
theorem dX6_readsTerm_188 : decode cX6_readsTerm 188 = .ok (.goto 146, 3) := by decide +kernel
theorem dX6_readsTerm_191 : decode cX6_readsTerm 191 = .ok (.iload_n 1, 1) := by decide +kernel
theorem dX6_readsTerm_192 : decode cX6_readsTerm 192 = .ok (.ifCond .ne 36, 3) := by decide +kernel
theorem dX6_readsTerm_195 : decode cX6_readsTerm 195 = .ok (.iload_n 2, 1) := by decide +kernel
theorem dX6_readsTerm_196 : decode cX6_readsTerm 196 = .ok (.bipush 41, 2) := by decide +kernel
theorem dX6_readsTerm_198 : decode cX6_readsTerm 198 = .ok (.if_icmp .ne 30, 3) := by decide +kernel
theorem dX6_readsTerm_201 : decode cX6_readsTerm 201 = .ok (.aload_n 0, 1) := by decide +kernel
theorem dX6_readsTerm_202 : decode cX6_readsTerm 202 = .ok (.invokevirtual 176, 3) := by decide +kernel
theorem dX6_readsTerm_205 : decode cX6_readsTerm 205 = .ok (.bipush 40, 2) := by decide +kernel
theorem dX6_readsTerm_207 : decode cX6_readsTerm 207 = .ok (.if_icmp .ne 21, 3) := by decide +kernel
theorem dX6_readsTerm_210 : decode cX6_readsTerm 210 = .ok (.aload_n 0, 1) := by decide +kernel
theorem dX6_readsTerm_211 : decode cX6_readsTerm 211 = .ok (.iconst 0, 1) := by decide +kernel
theorem dX6_readsTerm_212 : decode cX6_readsTerm 212 = .ok (.invokevirtual 172, 3) := by decide +kernel
theorem dX6_readsTerm_215 : decode cX6_readsTerm 215 = .ok (.aload_n 0, 1) := by decide +kernel
theorem dX6_readsTerm_216 : decode cX6_readsTerm 216 = .ok (.dup, 1) := by decide +kernel
theorem dX6_readsTerm_217 : decode cX6_readsTerm 217 = .ok (.getfield 153, 3) := by decide +kernel
theorem dX6_readsTerm_220 : decode cX6_readsTerm 220 = .ok (.iconst 1, 1) := by decide +kernel
theorem dX6_readsTerm_221 : decode cX6_readsTerm 221 = .ok (.isub, 1) := by decide +kernel
theorem dX6_readsTerm_222 : decode cX6_readsTerm 222 = .ok (.putfield 153, 3) := by decide +kernel
theorem dX6_readsTerm_225 : decode cX6_readsTerm 225 = .ok (.goto 109, 3) := by decide +kernel
theorem dX6_readsTerm_228 : decode cX6_readsTerm 228 = .ok (.iload_n 1, 1) := by decide +kernel
theorem dX6_readsTerm_229 : decode cX6_readsTerm 229 = .ok (.ifCond .ne 64, 3) := by decide +kernel
theorem dX6_readsTerm_232 : decode cX6_readsTerm 232 = .ok (.iload_n 2, 1) := by decide +kernel
theorem dX6_readsTerm_233 : decode cX6_readsTerm 233 = .ok (.bipush 93, 2) := by decide +kernel
theorem dX6_readsTerm_235 : decode cX6_readsTerm 235 = .ok (.if_icmp .ne 58, 3) := by decide +kernel
theorem dX6_readsTerm_238 : decode cX6_readsTerm 238 = .ok (.aload_n 0, 1) := by decide +kernel
theorem dX6_readsTerm_239 : decode cX6_readsTerm 239 = .ok (.invokevirtual 176, 3) := by decide +kernel
theorem dX6_readsTerm_242 : decode cX6_readsTerm 242 = .ok (.bipush 91, 2) := by decide +kernel
theorem dX6_readsTerm_244 : decode cX6_readsTerm 244 = .ok (.if_icmp .ne 49, 3) := by decide +kernel
theorem dX6_readsTerm_247 : decode cX6_readsTerm 247 = .ok (.aload_n 0, 1) := by decide +kernel
theorem dX6_readsTerm_248 : decode cX6_readsTerm 248 = .ok (.iconst 0, 1) := by decide +kernel
theorem dX6_readsTerm_249 : decode cX6_readsTerm 249 = .ok (.invokevirtual 172, 3) := by decide +kernel
theorem dX6_readsTerm_252 : decode cX6_readsTerm 252 = .ok (.aload_n 0, 1) := by decide +kernel
theorem dX6_readsTerm_253 : decode cX6_readsTerm 253 = .ok (.dup, 1) := by decide +kernel
theorem dX6_readsTerm_254 : decode cX6_readsTerm 254 = .ok (.getfield 153, 3) := by decide +kernel
theorem dX6_readsTerm_257 : decode cX6_readsTerm 257 = .ok (.iconst 1, 1) := by decide +kernel
theorem dX6_readsTerm_258 : decode cX6_readsTerm 258 = .ok (.isub, 1) := by decide +kernel
theorem dX6_readsTerm_259 : decode cX6_readsTerm 259 = .ok (.putfield 153, 3) := by decide +kernel
theorem dX6_readsTerm_262 : decode cX6_readsTerm 262 = .ok (.aload_n 0, 1) := by decide +kernel
theorem dX6_readsTerm_263 : decode cX6_readsTerm 263 = .ok (.getfield 73, 3) := by decide +kernel
theorem dX6_readsTerm_266 : decode cX6_readsTerm 266 = .ok (.aload_n 0, 1) := by decide +kernel
theorem dX6_readsTerm_267 : decode cX6_readsTerm 267 = .ok (.getfield 156, 3) := by decide +kernel
theorem dX6_readsTerm_270 : decode cX6_readsTerm 270 = .ok (.iconst 1, 1) := by decide +kernel
theorem dX6_readsTerm_271 : decode cX6_readsTerm 271 = .ok (.isub, 1) := by decide +kernel
theorem dX6_readsTerm_272 : decode cX6_readsTerm 272 = .ok (.aload_n 0, 1) := by decide +kernel
theorem dX6_readsTerm_273 : decode cX6_readsTerm 273 = .ok (.iconst 4, 1) := by decide +kernel
theorem dX6_readsTerm_274 : decode cX6_readsTerm 274 = .ok (.aload_n 0, 1) := by decide +kernel
theorem dX6_readsTerm_275 : decode cX6_readsTerm 275 = .ok (.getfield 73, 3) := by decide +kernel
theorem dX6_readsTerm_278 : decode cX6_readsTerm 278 = .ok (.aload_n 0, 1) := by decide +kernel
theorem dX6_readsTerm_279 : decode cX6_readsTerm 279 = .ok (.getfield 156, 3) := by decide +kernel
theorem dX6_readsTerm_282 : decode cX6_readsTerm 282 = .ok (.iconst 1, 1) := by decide +kernel
theorem dX6_readsTerm_283 : decode cX6_readsTerm 283 = .ok (.isub, 1) := by decide +kernel
theorem dX6_readsTerm_284 : decode cX6_readsTerm 284 = .ok (.iaload, 1) := by decide +kernel
theorem dX6_readsTerm_285 : decode cX6_readsTerm 285 = .ok (.iconst 0, 1) := by decide +kernel
theorem dX6_readsTerm_286 : decode cX6_readsTerm 286 = .ok (.invokevirtual 110, 3) := by decide +kernel
theorem dX6_readsTerm_289 : decode cX6_readsTerm 289 = .ok (.iastore, 1) := by decide +kernel
theorem dX6_readsTerm_290 : decode cX6_readsTerm 290 = .ok (.goto 44, 3) := by decide +kernel
theorem dX6_readsTerm_293 : decode cX6_readsTerm 293 = .ok (.iload_n 1, 1) := by decide +kernel
theorem dX6_readsTerm_294 : decode cX6_readsTerm 294 = .ok (.ifCond .ne 38, 3) := by decide +kernel
theorem dX6_readsTerm_297 : decode cX6_readsTerm 297 = .ok (.iload_n 2, 1) := by decide +kernel
theorem dX6_readsTerm_298 : decode cX6_readsTerm 298 = .ok (.bipush 59, 2) := by decide +kernel
theorem dX6_readsTerm_300 : decode cX6_readsTerm 300 = .ok (.if_icmp .ne 32, 3) := by decide +kernel
theorem dX6_readsTerm_303 : decode cX6_readsTerm 303 = .ok (.aload_n 0, 1) := by decide +kernel
theorem dX6_readsTerm_304 : decode cX6_readsTerm 304 = .ok (.invokevirtual 176, 3) := by decide +kernel
theorem dX6_readsTerm_307 : decode cX6_readsTerm 307 = .ok (.ifCond .ne 25, 3) := by decide +kernel
theorem dX6_readsTerm_310 : decode cX6_readsTerm 310 = .ok (.aload_n 0, 1) := by decide +kernel
theorem dX6_readsTerm_311 : decode cX6_readsTerm 311 = .ok (.iconst 0, 1) := by decide +kernel
theorem dX6_readsTerm_312 : decode cX6_readsTerm 312 = .ok (.invokevirtual 172, 3) := by decide +kernel
theorem dX6_readsTerm_315 : decode cX6_readsTerm 315 = .ok (.aload_n 0, 1) := by decide +kernel
theorem dX6_readsTerm_316 : decode cX6_readsTerm 316 = .ok (.dup, 1) := by decide +kernel
theorem dX6_readsTerm_317 : decode cX6_readsTerm 317 = .ok (.getfield 147, 3) := by decide +kernel
theorem dX6_readsTerm_320 : decode cX6_readsTerm 320 = .ok (.iconst 1, 1) := by decide +kernel
theorem dX6_readsTerm_321 : decode cX6_readsTerm 321 = .ok (.iadd, 1) := by decide +kernel
theorem dX6_readsTerm_322 : decode cX6_readsTerm 322 = .ok (.putfield 147, 3) := by decide +kernel
theorem dX6_readsTerm_325 : decode cX6_readsTerm 325 = .ok (.aload_n 0, 1) := by decide +kernel
theorem dX6_readsTerm_326 : decode cX6_readsTerm 326 = .ok (.getfield 73, 3) := by decide +kernel
theorem dX6_readsTerm_329 : decode cX6_readsTerm 329 = .ok (.iconst 0, 1) := by decide +kernel
theorem dX6_readsTerm_330 : decode cX6_readsTerm 330 = .ok (.iaload, 1) := by decide +kernel
theorem dX6_readsTerm_331 : decode cX6_readsTerm 331 = .ok (.ireturn, 1) := by decide +kernel
theorem dX6_readsTerm_332 : decode cX6_readsTerm 332 = .ok (.iconst (-1), 1) := by decide +kernel
theorem dX6_readsTerm_333 : decode cX6_readsTerm 333 = .ok (.ireturn, 1) := by decide +kernel
theorem dX6_readsTerm_334 : decode cX6_readsTerm 334 = .ok (.aload_n 0, 1) := by decide +kernel
theorem dX6_readsTerm_335 : decode cX6_readsTerm 335 = .ok (.dup, 1) := by decide +kernel
theorem dX6_readsTerm_336 : decode cX6_readsTerm 336 = .ok (.getfield 147, 3) := by decide +kernel
theorem dX6_readsTerm_339 : decode cX6_readsTerm 339 = .ok (.iconst 1, 1) := by decide +kernel
theorem dX6_readsTerm_340 : decode cX6_readsTerm 340 = .ok (.iadd, 1) := by decide +kernel
theorem dX6_readsTerm_341 : decode cX6_readsTerm 341 = .ok (.putfield 147, 3) := by decide +kernel
theorem dX6_readsTerm_344 : decode cX6_readsTerm 344 = .ok (.goto (-332), 3) := by decide +kernel
theorem dX6_readsAll_0 : decode cX6_readsAll 0 = .ok (.aload_n 0, 1) := by decide +kernel
theorem dX6_readsAll_1 : decode cX6_readsAll 1 = .ok (.iconst 0, 1) := by decide +kernel
theorem dX6_readsAll_2 : decode cX6_readsAll 2 = .ok (.putfield 94, 3) := by decide +kernel
theorem dX6_readsAll_5 : decode cX6_readsAll 5 = .ok (.aload_n 0, 1) := by decide +kernel
theorem dX6_readsAll_6 : decode cX6_readsAll 6 = .ok (.iconst 0, 1) := by decide +kernel
theorem dX6_readsAll_7 : decode cX6_readsAll 7 = .ok (.putfield 166, 3) := by decide +kernel
theorem dX6_readsAll_10 : decode cX6_readsAll 10 = .ok (.aload_n 0, 1) := by decide +kernel
theorem dX6_readsAll_11 : decode cX6_readsAll 11 = .ok (.iconst 0, 1) := by decide +kernel
theorem dX6_readsAll_12 : decode cX6_readsAll 12 = .ok (.putfield 180, 3) := by decide +kernel
theorem dX6_readsAll_15 : decode cX6_readsAll 15 = .ok (.aload_n 0, 1) := by decide +kernel
theorem dX6_readsAll_16 : decode cX6_readsAll 16 = .ok (.iconst 0, 1) := by decide +kernel
theorem dX6_readsAll_17 : decode cX6_readsAll 17 = .ok (.putfield 147, 3) := by decide +kernel
theorem dX6_readsAll_20 : decode cX6_readsAll 20 = .ok (.iconst 0, 1) := by decide +kernel
theorem dX6_readsAll_21 : decode cX6_readsAll 21 = .ok (.istore_n 1, 1) := by decide +kernel
theorem dX6_readsAll_22 : decode cX6_readsAll 22 = .ok (.iload_n 1, 1) := by decide +kernel
theorem dX6_readsAll_23 : decode cX6_readsAll 23 = .ok (.bipush 8, 2) := by decide +kernel
theorem dX6_readsAll_25 : decode cX6_readsAll 25 = .ok (.if_icmp .ge 16, 3) := by decide +kernel
theorem dX6_readsAll_28 : decode cX6_readsAll 28 = .ok (.aload_n 0, 1) := by decide +kernel
theorem dX6_readsAll_29 : decode cX6_readsAll 29 = .ok (.getfield 61, 3) := by decide +kernel
theorem dX6_readsAll_32 : decode cX6_readsAll 32 = .ok (.iload_n 1, 1) := by decide +kernel
theorem dX6_readsAll_33 : decode cX6_readsAll 33 = .ok (.iconst (-1), 1) := by decide +kernel
theorem dX6_readsAll_34 : decode cX6_readsAll 34 = .ok (.iastore, 1) := by decide +kernel
theorem dX6_readsAll_35 : decode cX6_readsAll 35 = .ok (.iinc 1 1, 3) := by decide +kernel
theorem dX6_readsAll_38 : decode cX6_readsAll 38 = .ok (.goto (-16), 3) := by decide +kernel
theorem dX6_readsAll_41 : decode cX6_readsAll 41 = .ok (.aload_n 0, 1) := by decide +kernel
theorem dX6_readsAll_42 : decode cX6_readsAll 42 = .ok (.invokevirtual 159, 3) := by decide +kernel
theorem dX6_readsAll_45 : decode cX6_readsAll 45 = .ok (.aload_n 0, 1) := by decide +kernel
theorem dX6_readsAll_46 : decode cX6_readsAll 46 = .ok (.getfield 147, 3) := by decide +kernel
theorem dX6_readsAll_49 : decode cX6_readsAll 49 = .ok (.aload_n 0, 1) := by decide +kernel
theorem dX6_readsAll_50 : decode cX6_readsAll 50 = .ok (.getfield 144, 3) := by decide +kernel
theorem dX6_readsAll_53 : decode cX6_readsAll 53 = .ok (.if_icmp .lt 10, 3) := by decide +kernel
theorem dX6_readsAll_56 : decode cX6_readsAll 56 = .ok (.aload_n 0, 1) := by decide +kernel
theorem dX6_readsAll_57 : decode cX6_readsAll 57 = .ok (.getfield 180, 3) := by decide +kernel
theorem dX6_readsAll_60 : decode cX6_readsAll 60 = .ok (.ifCond .ne 136, 3) := by decide +kernel
theorem dX6_readsAll_63 : decode cX6_readsAll 63 = .ok (.aload_n 0, 1) := by decide +kernel
theorem dX6_readsAll_64 : decode cX6_readsAll 64 = .ok (.aload_n 0, 1) := by decide +kernel
theorem dX6_readsAll_65 : decode cX6_readsAll 65 = .ok (.getfield 147, 3) := by decide +kernel
theorem dX6_readsAll_68 : decode cX6_readsAll 68 = .ok (.invokevirtual 150, 3) := by decide +kernel
theorem dX6_readsAll_71 : decode cX6_readsAll 71 = .ok (.istore_n 1, 1) := by decide +kernel
theorem dX6_readsAll_72 : decode cX6_readsAll 72 = .ok (.iload_n 1, 1) := by decide +kernel
theorem dX6_readsAll_73 : decode cX6_readsAll 73 = .ok (.bipush 97, 2) := by decide +kernel
theorem dX6_readsAll_75 : decode cX6_readsAll 75 = .ok (.bipush 104, 2) := by decide +kernel
theorem dX6_readsAll_77 : decode cX6_readsAll 77 = .ok (.invokestatic 86, 3) := by decide +kernel
theorem dX6_readsAll_80 : decode cX6_readsAll 80 = .ok (.ifCond .eq 15, 3) := by decide +kernel
theorem dX6_readsAll_83 : decode cX6_readsAll 83 = .ok (.aload_n 0, 1) := by decide +kernel
theorem dX6_readsAll_84 : decode cX6_readsAll 84 = .ok (.getfield 61, 3) := by decide +kernel
theorem dX6_readsAll_87 : decode cX6_readsAll 87 = .ok (.iload_n 1, 1) := by decide +kernel
theorem dX6_readsAll_88 : decode cX6_readsAll 88 = .ok (.bipush 97, 2) := by decide +kernel
theorem dX6_readsAll_90 : decode cX6_readsAll 90 = .ok (.isub, 1) := by decide +kernel
theorem dX6_readsAll_91 : decode cX6_readsAll 91 = .ok (.iaload, 1) := by decide +kernel
theorem dX6_readsAll_92 : decode cX6_readsAll 92 = .ok (.ifCond .lt 8, 3) := by decide +kernel
theorem dX6_readsAll_95 : decode cX6_readsAll 95 = .ok (.aload_n 0, 1) := by decide +kernel
theorem dX6_readsAll_96 : decode cX6_readsAll 96 = .ok (.getfield 147, 3) := by decide +kernel
theorem dX6_readsAll_99 : decode cX6_readsAll 99 = .ok (.ireturn, 1) := by decide +kernel
theorem dX6_readsAll_100 : decode cX6_readsAll 100 = .ok (.aload_n 0, 1) := by decide +kernel
theorem dX6_readsAll_101 : decode cX6_readsAll 101 = .ok (.getfield 64, 3) := by decide +kernel
theorem dX6_readsAll_104 : decode cX6_readsAll 104 = .ok (.iload_n 1, 1) := by decide +kernel
theorem dX6_readsAll_105 : decode cX6_readsAll 105 = .ok (.bipush 97, 2) := by decide +kernel
theorem dX6_readsAll_107 : decode cX6_readsAll 107 = .ok (.isub, 1) := by decide +kernel
theorem dX6_readsAll_108 : decode cX6_readsAll 108 = .ok (.aload_n 0, 1) := by decide +kernel
theorem dX6_readsAll_109 : decode cX6_readsAll 109 = .ok (.getfield 147, 3) := by decide +kernel
theorem dX6_readsAll_112 : decode cX6_readsAll 112 = .ok (.iastore, 1) := by decide +kernel
theorem dX6_readsAll_113 : decode cX6_readsAll 113 = .ok (.aload_n 0, 1) := by decide +kernel
theorem dX6_readsAll_114 : decode cX6_readsAll 114 = .ok (.dup, 1) := by decide +kernel
theorem dX6_readsAll_115 : decode cX6_readsAll 115 = .ok (.getfield 147, 3) := by decide +kernel
theorem dX6_readsAll_118 : decode cX6_readsAll 118 = .ok (.iconst 1, 1) := by decide +kernel
theorem dX6_readsAll_119 : decode cX6_readsAll 119 = .ok (.iadd, 1) := by decide +kernel
theorem dX6_readsAll_120 : decode cX6_readsAll 120 = .ok (.putfield 147, 3) := by decide +kernel
theorem dX6_readsAll_123 : decode cX6_readsAll 123 = .ok (.aload_n 0, 1) := by decide +kernel
theorem dX6_readsAll_124 : decode cX6_readsAll 124 = .ok (.invokevirtual 159, 3) := by decide +kernel
theorem dX6_readsAll_127 : decode cX6_readsAll 127 = .ok (.aload_n 0, 1) := by decide +kernel
theorem dX6_readsAll_128 : decode cX6_readsAll 128 = .ok (.aload_n 0, 1) := by decide +kernel
theorem dX6_readsAll_129 : decode cX6_readsAll 129 = .ok (.getfield 147, 3) := by decide +kernel
theorem dX6_readsAll_132 : decode cX6_readsAll 132 = .ok (.invokevirtual 150, 3) := by decide +kernel
theorem dX6_readsAll_135 : decode cX6_readsAll 135 = .ok (.bipush 61, 2) := by decide +kernel
theorem dX6_readsAll_137 : decode cX6_readsAll 137 = .ok (.if_icmp .eq 8, 3) := by decide +kernel
theorem dX6_readsAll_140 : decode cX6_readsAll 140 = .ok (.aload_n 0, 1) := by decide +kernel
theorem dX6_readsAll_141 : decode cX6_readsAll 141 = .ok (.getfield 147, 3) := by decide +kernel
theorem dX6_readsAll_144 : decode cX6_readsAll 144 = .ok (.ireturn, 1) := by decide +kernel
theorem dX6_readsAll_145 : decode cX6_readsAll 145 = .ok (.aload_n 0, 1) := by decide +kernel
theorem dX6_readsAll_146 : decode cX6_readsAll 146 = .ok (.dup, 1) := by decide +kernel
theorem dX6_readsAll_147 : decode cX6_readsAll 147 = .ok (.getfield 147, 3) := by decide +kernel
theorem dX6_readsAll_150 : decode cX6_readsAll 150 = .ok (.iconst 1, 1) := by decide +kernel
theorem dX6_readsAll_151 : decode cX6_readsAll 151 = .ok (.iadd, 1) := by decide +kernel
theorem dX6_readsAll_152 : decode cX6_readsAll 152 = .ok (.putfield 147, 3) := by decide +kernel
theorem dX6_readsAll_155 : decode cX6_readsAll 155 = .ok (.aload_n 0, 1) := by decide +kernel
theorem dX6_readsAll_156 : decode cX6_readsAll 156 = .ok (.invokevirtual 183, 3) := by decide +kernel
theorem dX6_readsAll_159 : decode cX6_readsAll 159 = .ok (.istore_n 2, 1) := by decide +kernel
theorem dX6_readsAll_160 : decode cX6_readsAll 160 = .ok (.iload_n 2, 1) := by decide +kernel
theorem dX6_readsAll_161 : decode cX6_readsAll 161 = .ok (.ifCond .ge 8, 3) := by decide +kernel
theorem dX6_readsAll_164 : decode cX6_readsAll 164 = .ok (.aload_n 0, 1) := by decide +kernel
theorem dX6_readsAll_165 : decode cX6_readsAll 165 = .ok (.getfield 147, 3) := by decide +kernel
theorem dX6_readsAll_168 : decode cX6_readsAll 168 = .ok (.ireturn, 1) := by decide +kernel
theorem dX6_readsAll_169 : decode cX6_readsAll 169 = .ok (.aload_n 0, 1) := by decide +kernel
theorem dX6_readsAll_170 : decode cX6_readsAll 170 = .ok (.getfield 61, 3) := by decide +kernel
theorem dX6_readsAll_173 : decode cX6_readsAll 173 = .ok (.iload_n 1, 1) := by decide +kernel
theorem dX6_readsAll_174 : decode cX6_readsAll 174 = .ok (.bipush 97, 2) := by decide +kernel
theorem dX6_readsAll_176 : decode cX6_readsAll 176 = .ok (.isub, 1) := by decide +kernel
theorem dX6_readsAll_177 : decode cX6_readsAll 177 = .ok (.iload_n 2, 1) := by decide +kernel
theorem dX6_readsAll_178 : decode cX6_readsAll 178 = .ok (.iastore, 1) := by decide +kernel
theorem dX6_readsAll_179 : decode cX6_readsAll 179 = .ok (.aload_n 0, 1) := by decide +kernel
theorem dX6_readsAll_180 : decode cX6_readsAll 180 = .ok (.dup, 1) := by decide +kernel
theorem dX6_readsAll_181 : decode cX6_readsAll 181 = .ok (.getfield 180, 3) := by decide +kernel
theorem dX6_readsAll_184 : decode cX6_readsAll 184 = .ok (.iconst 1, 1) := by decide +kernel
theorem dX6_readsAll_185 : decode cX6_readsAll 185 = .ok (.iadd, 1) := by decide +kernel
theorem dX6_readsAll_186 : decode cX6_readsAll 186 = .ok (.putfield 180, 3) := by decide +kernel
theorem dX6_readsAll_189 : decode cX6_readsAll 189 = .ok (.aload_n 0, 1) := by decide +kernel
theorem dX6_readsAll_190 : decode cX6_readsAll 190 = .ok (.invokevirtual 159, 3) := by decide +kernel
theorem dX6_readsAll_193 : decode cX6_readsAll 193 = .ok (.goto (-148), 3) := by decide +kernel
theorem dX6_readsAll_196 : decode cX6_readsAll 196 = .ok (.iconst 0, 1) := by decide +kernel
theorem dX6_readsAll_197 : decode cX6_readsAll 197 = .ok (.istore_n 1, 1) := by decide +kernel
theorem dX6_readsAll_198 : decode cX6_readsAll 198 = .ok (.iload_n 1, 1) := by decide +kernel
theorem dX6_readsAll_199 : decode cX6_readsAll 199 = .ok (.aload_n 0, 1) := by decide +kernel
theorem dX6_readsAll_200 : decode cX6_readsAll 200 = .ok (.getfield 166, 3) := by decide +kernel
theorem dX6_readsAll_203 : decode cX6_readsAll 203 = .ok (.if_icmp .ge 49, 3) := by decide +kernel
theorem dX6_readsAll_206 : decode cX6_readsAll 206 = .ok (.aload_n 0, 1) := by decide +kernel
theorem dX6_readsAll_207 : decode cX6_readsAll 207 = .ok (.getfield 25, 3) := by decide +kernel
theorem dX6_readsAll_210 : decode cX6_readsAll 210 = .ok (.aload_n 0, 1) := by decide +kernel
theorem dX6_readsAll_211 : decode cX6_readsAll 211 = .ok (.getfield 67, 3) := by decide +kernel
theorem dX6_readsAll_214 : decode cX6_readsAll 214 = .ok (.iload_n 1, 1) := by decide +kernel
theorem dX6_readsAll_215 : decode cX6_readsAll 215 = .ok (.iaload, 1) := by decide +kernel
theorem dX6_readsAll_216 : decode cX6_readsAll 216 = .ok (.iaload, 1) := by decide +kernel
theorem dX6_readsAll_217 : decode cX6_readsAll 217 = .ok (.bipush 97, 2) := by decide +kernel
theorem dX6_readsAll_219 : decode cX6_readsAll 219 = .ok (.isub, 1) := by decide +kernel
theorem dX6_readsAll_220 : decode cX6_readsAll 220 = .ok (.istore_n 2, 1) := by decide +kernel
theorem dX6_readsAll_221 : decode cX6_readsAll 221 = .ok (.aload_n 0, 1) := by decide +kernel
theorem dX6_readsAll_222 : decode cX6_readsAll 222 = .ok (.getfield 61, 3) := by decide +kernel
theorem dX6_readsAll_225 : decode cX6_readsAll 225 = .ok (.iload_n 2, 1) := by decide +kernel
theorem dX6_readsAll_226 : decode cX6_readsAll 226 = .ok (.iaload, 1) := by decide +kernel
theorem dX6_readsAll_227 : decode cX6_readsAll 227 = .ok (.ifCond .ge 19, 3) := by decide +kernel
theorem dX6_readsAll_230 : decode cX6_readsAll 230 = .ok (.aload_n 0, 1) := by decide +kernel
theorem dX6_readsAll_231 : decode cX6_readsAll 231 = .ok (.getfield 7, 3) := by decide +kernel
theorem dX6_readsAll_234 : decode cX6_readsAll 234 = .ok (.iload_n 2, 1) := by decide +kernel
theorem dX6_readsAll_235 : decode cX6_readsAll 235 = .ok (.iaload, 1) := by decide +kernel
theorem dX6_readsAll_236 : decode cX6_readsAll 236 = .ok (.ifCond .ne 10, 3) := by decide +kernel
theorem dX6_readsAll_239 : decode cX6_readsAll 239 = .ok (.aload_n 0, 1) := by decide +kernel
theorem dX6_readsAll_240 : decode cX6_readsAll 240 = .ok (.getfield 67, 3) := by decide +kernel
theorem dX6_readsAll_243 : decode cX6_readsAll 243 = .ok (.iload_n 1, 1) := by decide +kernel
theorem dX6_readsAll_244 : decode cX6_readsAll 244 = .ok (.iaload, 1) := by decide +kernel
theorem dX6_readsAll_245 : decode cX6_readsAll 245 = .ok (.ireturn, 1) := by decide +kernel
theorem dX6_readsAll_246 : decode cX6_readsAll 246 = .ok (.iinc 1 1, 3) := by decide +kernel
theorem dX6_readsAll_249 : decode cX6_readsAll 249 = .ok (.goto (-51), 3) := by decide +kernel
theorem dX6_readsAll_252 : decode cX6_readsAll 252 = .ok (.iconst (-1), 1) := by decide +kernel
theorem dX6_readsAll_253 : decode cX6_readsAll 253 = .ok (.istore_n 1, 1) := by decide +kernel
theorem dX6_readsAll_254 : decode cX6_readsAll 254 = .ok (.iconst 0, 1) := by decide +kernel
theorem dX6_readsAll_255 : decode cX6_readsAll 255 = .ok (.istore_n 2, 1) := by decide +kernel
theorem dX6_readsAll_256 : decode cX6_readsAll 256 = .ok (.iload_n 2, 1) := by decide +kernel
theorem dX6_readsAll_257 : decode cX6_readsAll 257 = .ok (.bipush 8, 2) := by decide +kernel
theorem dX6_readsAll_259 : decode cX6_readsAll 259 = .ok (.if_icmp .ge 52, 3) := by decide +kernel
theorem dX6_readsAll_262 : decode cX6_readsAll 262 = .ok (.aload_n 0, 1) := by decide +kernel
theorem dX6_readsAll_263 : decode cX6_readsAll 263 = .ok (.getfield 61, 3) := by decide +kernel
theorem dX6_readsAll_266 : decode cX6_readsAll 266 = .ok (.iload_n 2, 1) := by decide +kernel
theorem dX6_readsAll_267 : decode cX6_readsAll 267 = .ok (.iaload, 1) := by decide +kernel
theorem dX6_readsAll_268 : decode cX6_readsAll 268 = .ok (.ifCond .lt 35, 3) := by decide +kernel
theorem dX6_readsAll_271 : decode cX6_readsAll 271 = .ok (.aload_n 0, 1) := by decide +kernel
theorem dX6_readsAll_272 : decode cX6_readsAll 272 = .ok (.iload_n 2, 1) := by decide +kernel
theorem dX6_readsAll_273 : decode cX6_readsAll 273 = .ok (.invokevirtual 186, 3) := by decide +kernel
theorem dX6_readsAll_276 : decode cX6_readsAll 276 = .ok (.ifCond .eq 27, 3) := by decide +kernel
theorem dX6_readsAll_279 : decode cX6_readsAll 279 = .ok (.iload_n 1, 1) := by decide +kernel
theorem dX6_readsAll_280 : decode cX6_readsAll 280 = .ok (.iconst (-1), 1) := by decide +kernel
theorem dX6_readsAll_281 : decode cX6_readsAll 281 = .ok (.if_icmp .eq 13, 3) := by decide +kernel
theorem dX6_readsAll_284 : decode cX6_readsAll 284 = .ok (.aload_n 0, 1) := by decide +kernel
theorem dX6_readsAll_285 : decode cX6_readsAll 285 = .ok (.getfield 64, 3) := by decide +kernel
theorem dX6_readsAll_288 : decode cX6_readsAll 288 = .ok (.iload_n 2, 1) := by decide +kernel
theorem dX6_readsAll_289 : decode cX6_readsAll 289 = .ok (.iaload, 1) := by decide +kernel
theorem dX6_readsAll_290 : decode cX6_readsAll 290 = .ok (.iload_n 1, 1) := by decide +kernel
theorem dX6_readsAll_291 : decode cX6_readsAll 291 = .ok (.if_icmp .ge 12, 3) := by decide +kernel
theorem dX6_readsAll_294 : decode cX6_readsAll 294 = .ok (.aload_n 0, 1) := by decide +kernel
theorem dX6_readsAll_295 : decode cX6_readsAll 295 = .ok (.getfield 64, 3) := by decide +kernel
theorem dX6_readsAll_298 : decode cX6_readsAll 298 = .ok (.iload_n 2, 1) := by decide +kernel
theorem dX6_readsAll_299 : decode cX6_readsAll 299 = .ok (.iaload, 1) := by decide +kernel
theorem dX6_readsAll_300 : decode cX6_readsAll 300 = .ok (.goto 4, 3) := by decide +kernel
theorem dX6_readsAll_303 : decode cX6_readsAll 303 = .ok (.iload_n 1, 1) := by decide +kernel
theorem dX6_readsAll_304 : decode cX6_readsAll 304 = .ok (.istore_n 1, 1) := by decide +kernel
theorem dX6_readsAll_305 : decode cX6_readsAll 305 = .ok (.iinc 2 1, 3) := by decide +kernel
theorem dX6_readsAll_308 : decode cX6_readsAll 308 = .ok (.goto (-52), 3) := by decide +kernel
theorem dX6_readsAll_311 : decode cX6_readsAll 311 = .ok (.iload_n 1, 1) := by decide +kernel
theorem dX6_readsAll_312 : decode cX6_readsAll 312 = .ok (.ireturn, 1) := by decide +kernel
theorem dX6_comesBack_0 : decode cX6_comesBack 0 = .ok (.iload_n 1, 1) := by decide +kernel
theorem dX6_comesBack_1 : decode cX6_comesBack 1 = .ok (.istore_n 2, 1) := by decide +kernel
theorem dX6_comesBack_2 : decode cX6_comesBack 2 = .ok (.iconst 0, 1) := by decide +kernel
theorem dX6_comesBack_3 : decode cX6_comesBack 3 = .ok (.istore_n 3, 1) := by decide +kernel
theorem dX6_comesBack_4 : decode cX6_comesBack 4 = .ok (.iload_n 3, 1) := by decide +kernel
theorem dX6_comesBack_5 : decode cX6_comesBack 5 = .ok (.bipush 8, 2) := by decide +kernel
theorem dX6_comesBack_7 : decode cX6_comesBack 7 = .ok (.if_icmp .ge 62, 3) := by decide +kernel
theorem dX6_comesBack_10 : decode cX6_comesBack 10 = .ok (.aload_n 0, 1) := by decide +kernel
theorem dX6_comesBack_11 : decode cX6_comesBack 11 = .ok (.getfield 61, 3) := by decide +kernel
theorem dX6_comesBack_14 : decode cX6_comesBack 14 = .ok (.iload_n 2, 1) := by decide +kernel
theorem dX6_comesBack_15 : decode cX6_comesBack 15 = .ok (.iaload, 1) := by decide +kernel
theorem dX6_comesBack_16 : decode cX6_comesBack 16 = .ok (.ifCond .lt 22, 3) := by decide +kernel
theorem dX6_comesBack_19 : decode cX6_comesBack 19 = .ok (.aload_n 0, 1) := by decide +kernel
theorem dX6_comesBack_20 : decode cX6_comesBack 20 = .ok (.getfield 28, 3) := by decide +kernel
theorem dX6_comesBack_23 : decode cX6_comesBack 23 = .ok (.aload_n 0, 1) := by decide +kernel
theorem dX6_comesBack_24 : decode cX6_comesBack 24 = .ok (.getfield 61, 3) := by decide +kernel
theorem dX6_comesBack_27 : decode cX6_comesBack 27 = .ok (.iload_n 2, 1) := by decide +kernel
theorem dX6_comesBack_28 : decode cX6_comesBack 28 = .ok (.iaload, 1) := by decide +kernel
theorem dX6_comesBack_29 : decode cX6_comesBack 29 = .ok (.iaload, 1) := by decide +kernel
theorem dX6_comesBack_30 : decode cX6_comesBack 30 = .ok (.invokestatic 102, 3) := by decide +kernel
theorem dX6_comesBack_33 : decode cX6_comesBack 33 = .ok (.bipush 7, 2) := by decide +kernel
theorem dX6_comesBack_35 : decode cX6_comesBack 35 = .ok (.if_icmp .eq 5, 3) := by decide +kernel
theorem dX6_comesBack_38 : decode cX6_comesBack 38 = .ok (.iconst 0, 1) := by decide +kernel
theorem dX6_comesBack_39 : decode cX6_comesBack 39 = .ok (.ireturn, 1) := by decide +kernel
theorem dX6_comesBack_40 : decode cX6_comesBack 40 = .ok (.aload_n 0, 1) := by decide +kernel
theorem dX6_comesBack_41 : decode cX6_comesBack 41 = .ok (.getfield 28, 3) := by decide +kernel
theorem dX6_comesBack_44 : decode cX6_comesBack 44 = .ok (.aload_n 0, 1) := by decide +kernel
theorem dX6_comesBack_45 : decode cX6_comesBack 45 = .ok (.getfield 61, 3) := by decide +kernel
theorem dX6_comesBack_48 : decode cX6_comesBack 48 = .ok (.iload_n 2, 1) := by decide +kernel
theorem dX6_comesBack_49 : decode cX6_comesBack 49 = .ok (.iaload, 1) := by decide +kernel
theorem dX6_comesBack_50 : decode cX6_comesBack 50 = .ok (.iaload, 1) := by decide +kernel
theorem dX6_comesBack_51 : decode cX6_comesBack 51 = .ok (.iconst 0, 1) := by decide +kernel
theorem dX6_comesBack_52 : decode cX6_comesBack 52 = .ok (.invokestatic 106, 3) := by decide +kernel
theorem dX6_comesBack_55 : decode cX6_comesBack 55 = .ok (.istore_n 2, 1) := by decide +kernel
theorem dX6_comesBack_56 : decode cX6_comesBack 56 = .ok (.iload_n 2, 1) := by decide +kernel
theorem dX6_comesBack_57 : decode cX6_comesBack 57 = .ok (.iload_n 1, 1) := by decide +kernel
theorem dX6_comesBack_58 : decode cX6_comesBack 58 = .ok (.if_icmp .ne 5, 3) := by decide +kernel
theorem dX6_comesBack_61 : decode cX6_comesBack 61 = .ok (.iconst 1, 1) := by decide +kernel
theorem dX6_comesBack_62 : decode cX6_comesBack 62 = .ok (.ireturn, 1) := by decide +kernel
theorem dX6_comesBack_63 : decode cX6_comesBack 63 = .ok (.iinc 3 1, 3) := by decide +kernel
theorem dX6_comesBack_66 : decode cX6_comesBack 66 = .ok (.goto (-62), 3) := by decide +kernel
theorem dX6_comesBack_69 : decode cX6_comesBack 69 = .ok (.iconst 0, 1) := by decide +kernel
theorem dX6_comesBack_70 : decode cX6_comesBack 70 = .ok (.ireturn, 1) := by decide +kernel
theorem dX6_meant_0 : decode cX6_meant 0 = .ok (.iload_n 1, 1) := by decide +kernel
theorem dX6_meant_1 : decode cX6_meant 1 = .ok (.istore_n 2, 1) := by decide +kernel
theorem dX6_meant_2 : decode cX6_meant 2 = .ok (.aload_n 0, 1) := by decide +kernel
theorem dX6_meant_3 : decode cX6_meant 3 = .ok (.getfield 28, 3) := by decide +kernel
theorem dX6_meant_6 : decode cX6_meant 6 = .ok (.iload_n 2, 1) := by decide +kernel
theorem dX6_meant_7 : decode cX6_meant 7 = .ok (.iaload, 1) := by decide +kernel
theorem dX6_meant_8 : decode cX6_meant 8 = .ok (.invokestatic 102, 3) := by decide +kernel
theorem dX6_meant_11 : decode cX6_meant 11 = .ok (.bipush 7, 2) := by decide +kernel
theorem dX6_meant_13 : decode cX6_meant 13 = .ok (.if_icmp .ne 22, 3) := by decide +kernel
theorem dX6_meant_16 : decode cX6_meant 16 = .ok (.aload_n 0, 1) := by decide +kernel
theorem dX6_meant_17 : decode cX6_meant 17 = .ok (.getfield 61, 3) := by decide +kernel
theorem dX6_meant_20 : decode cX6_meant 20 = .ok (.aload_n 0, 1) := by decide +kernel
theorem dX6_meant_21 : decode cX6_meant 21 = .ok (.getfield 28, 3) := by decide +kernel
theorem dX6_meant_24 : decode cX6_meant 24 = .ok (.iload_n 2, 1) := by decide +kernel
theorem dX6_meant_25 : decode cX6_meant 25 = .ok (.iaload, 1) := by decide +kernel
theorem dX6_meant_26 : decode cX6_meant 26 = .ok (.iconst 0, 1) := by decide +kernel
theorem dX6_meant_27 : decode cX6_meant 27 = .ok (.invokestatic 106, 3) := by decide +kernel
theorem dX6_meant_30 : decode cX6_meant 30 = .ok (.iaload, 1) := by decide +kernel
theorem dX6_meant_31 : decode cX6_meant 31 = .ok (.istore_n 2, 1) := by decide +kernel
theorem dX6_meant_32 : decode cX6_meant 32 = .ok (.goto (-30), 3) := by decide +kernel
theorem dX6_meant_35 : decode cX6_meant 35 = .ok (.iload_n 2, 1) := by decide +kernel
theorem dX6_meant_36 : decode cX6_meant 36 = .ok (.ireturn, 1) := by decide +kernel
theorem dX6_read_0 : decode cX6_read 0 = .ok (.aload_n 0, 1) := by decide +kernel
theorem dX6_read_1 : decode cX6_read 1 = .ok (.invokevirtual 189, 3) := by decide +kernel
theorem dX6_read_4 : decode cX6_read 4 = .ok (.istore_n 1, 1) := by decide +kernel
theorem dX6_read_5 : decode cX6_read 5 = .ok (.iload_n 1, 1) := by decide +kernel
theorem dX6_read_6 : decode cX6_read 6 = .ok (.iconst (-1), 1) := by decide +kernel
theorem dX6_read_7 : decode cX6_read 7 = .ok (.if_icmp .eq 8, 3) := by decide +kernel
theorem dX6_read_10 : decode cX6_read 10 = .ok (.bipush (-10), 2) := by decide +kernel
theorem dX6_read_12 : decode cX6_read 12 = .ok (.iload_n 1, 1) := by decide +kernel
theorem dX6_read_13 : decode cX6_read 13 = .ok (.isub, 1) := by decide +kernel
theorem dX6_read_14 : decode cX6_read 14 = .ok (.ireturn, 1) := by decide +kernel
theorem dX6_read_15 : decode cX6_read 15 = .ok (.iconst 0, 1) := by decide +kernel
theorem dX6_read_16 : decode cX6_read 16 = .ok (.istore_n 2, 1) := by decide +kernel
theorem dX6_read_17 : decode cX6_read 17 = .ok (.iconst 0, 1) := by decide +kernel
theorem dX6_read_18 : decode cX6_read 18 = .ok (.istore_n 3, 1) := by decide +kernel
theorem dX6_read_19 : decode cX6_read 19 = .ok (.iload_n 3, 1) := by decide +kernel
theorem dX6_read_20 : decode cX6_read 20 = .ok (.bipush 8, 2) := by decide +kernel
theorem dX6_read_22 : decode cX6_read 22 = .ok (.if_icmp .ge 28, 3) := by decide +kernel
theorem dX6_read_25 : decode cX6_read 25 = .ok (.iload_n 2, 1) := by decide +kernel
theorem dX6_read_26 : decode cX6_read 26 = .ok (.aload_n 0, 1) := by decide +kernel
theorem dX6_read_27 : decode cX6_read 27 = .ok (.getfield 61, 3) := by decide +kernel
theorem dX6_read_30 : decode cX6_read 30 = .ok (.iload_n 3, 1) := by decide +kernel
theorem dX6_read_31 : decode cX6_read 31 = .ok (.iaload, 1) := by decide +kernel
theorem dX6_read_32 : decode cX6_read 32 = .ok (.ifCond .lt 9, 3) := by decide +kernel
theorem dX6_read_35 : decode cX6_read 35 = .ok (.iconst 1, 1) := by decide +kernel
theorem dX6_read_36 : decode cX6_read 36 = .ok (.iload_n 3, 1) := by decide +kernel
theorem dX6_read_37 : decode cX6_read 37 = .ok (.ishl, 1) := by decide +kernel
theorem dX6_read_38 : decode cX6_read 38 = .ok (.goto 4, 3) := by decide +kernel
theorem dX6_read_41 : decode cX6_read 41 = .ok (.iconst 0, 1) := by decide +kernel
theorem dX6_read_42 : decode cX6_read 42 = .ok (.ior, 1) := by decide +kernel
theorem dX6_read_43 : decode cX6_read 43 = .ok (.istore_n 2, 1) := by decide +kernel
theorem dX6_read_44 : decode cX6_read 44 = .ok (.iinc 3 1, 3) := by decide +kernel
theorem dX6_read_47 : decode cX6_read 47 = .ok (.goto (-28), 3) := by decide +kernel
theorem dX6_read_50 : decode cX6_read 50 = .ok (.aload_n 0, 1) := by decide +kernel
theorem dX6_read_51 : decode cX6_read 51 = .ok (.getfield 94, 3) := by decide +kernel
theorem dX6_read_54 : decode cX6_read 54 = .ok (.istore_n 3, 1) := by decide +kernel
theorem dX6_read_55 : decode cX6_read 55 = .ok (.iconst 0, 1) := by decide +kernel
theorem dX6_read_56 : decode cX6_read 56 = .ok (.istore 4, 2) := by decide +kernel
theorem dX6_read_58 : decode cX6_read 58 = .ok (.iload 4, 2) := by decide +kernel
theorem dX6_read_60 : decode cX6_read 60 = .ok (.bipush 8, 2) := by decide +kernel
theorem dX6_read_62 : decode cX6_read 62 = .ok (.if_icmp .ge 52, 3) := by decide +kernel
theorem dX6_read_65 : decode cX6_read 65 = .ok (.aload_n 0, 1) := by decide +kernel
theorem dX6_read_66 : decode cX6_read 66 = .ok (.getfield 61, 3) := by decide +kernel
theorem dX6_read_69 : decode cX6_read 69 = .ok (.iload 4, 2) := by decide +kernel
theorem dX6_read_71 : decode cX6_read 71 = .ok (.aload_n 0, 1) := by decide +kernel
theorem dX6_read_72 : decode cX6_read 72 = .ok (.getfield 61, 3) := by decide +kernel
theorem dX6_read_75 : decode cX6_read 75 = .ok (.iload 4, 2) := by decide +kernel
theorem dX6_read_77 : decode cX6_read 77 = .ok (.iaload, 1) := by decide +kernel
theorem dX6_read_78 : decode cX6_read 78 = .ok (.ifCond .ge 22, 3) := by decide +kernel
theorem dX6_read_81 : decode cX6_read 81 = .ok (.aload_n 0, 1) := by decide +kernel
theorem dX6_read_82 : decode cX6_read 82 = .ok (.getfield 7, 3) := by decide +kernel
theorem dX6_read_85 : decode cX6_read 85 = .ok (.iload 4, 2) := by decide +kernel
theorem dX6_read_87 : decode cX6_read 87 = .ok (.iaload, 1) := by decide +kernel
theorem dX6_read_88 : decode cX6_read 88 = .ok (.ifCond .le 12, 3) := by decide +kernel
theorem dX6_read_91 : decode cX6_read 91 = .ok (.aload_n 0, 1) := by decide +kernel
theorem dX6_read_92 : decode cX6_read 92 = .ok (.iload 4, 2) := by decide +kernel
theorem dX6_read_94 : decode cX6_read 94 = .ok (.invokevirtual 192, 3) := by decide +kernel
theorem dX6_read_97 : decode cX6_read 97 = .ok (.goto 10, 3) := by decide +kernel
theorem dX6_read_100 : decode cX6_read 100 = .ok (.aload_n 0, 1) := by decide +kernel
theorem dX6_read_101 : decode cX6_read 101 = .ok (.getfield 61, 3) := by decide +kernel
theorem dX6_read_104 : decode cX6_read 104 = .ok (.iload 4, 2) := by decide +kernel
theorem dX6_read_106 : decode cX6_read 106 = .ok (.iaload, 1) := by decide +kernel
theorem dX6_read_107 : decode cX6_read 107 = .ok (.iastore, 1) := by decide +kernel
theorem dX6_read_108 : decode cX6_read 108 = .ok (.iinc 4 1, 3) := by decide +kernel
theorem dX6_read_111 : decode cX6_read 111 = .ok (.goto (-53), 3) := by decide +kernel
theorem dX6_read_114 : decode cX6_read 114 = .ok (.iconst 0, 1) := by decide +kernel
theorem dX6_read_115 : decode cX6_read 115 = .ok (.istore 4, 2) := by decide +kernel
theorem dX6_read_117 : decode cX6_read 117 = .ok (.iload 4, 2) := by decide +kernel
theorem dX6_read_119 : decode cX6_read 119 = .ok (.iload_n 3, 1) := by decide +kernel
theorem dX6_read_120 : decode cX6_read 120 = .ok (.if_icmp .ge 96, 3) := by decide +kernel
theorem dX6_read_123 : decode cX6_read 123 = .ok (.aload_n 0, 1) := by decide +kernel
theorem dX6_read_124 : decode cX6_read 124 = .ok (.getfield 28, 3) := by decide +kernel
theorem dX6_read_127 : decode cX6_read 127 = .ok (.iload 4, 2) := by decide +kernel
theorem dX6_read_129 : decode cX6_read 129 = .ok (.iaload, 1) := by decide +kernel
theorem dX6_read_130 : decode cX6_read 130 = .ok (.invokestatic 102, 3) := by decide +kernel
theorem dX6_read_133 : decode cX6_read 133 = .ok (.istore 5, 2) := by decide +kernel
theorem dX6_read_135 : decode cX6_read 135 = .ok (.iload 5, 2) := by decide +kernel
theorem dX6_read_137 : decode cX6_read 137 = .ok (.bipush 7, 2) := by decide +kernel
theorem dX6_read_139 : decode cX6_read 139 = .ok (.if_icmp .eq 71, 3) := by decide +kernel
theorem dX6_read_142 : decode cX6_read 142 = .ok (.iload 5, 2) := by decide +kernel
theorem dX6_read_144 : decode cX6_read 144 = .ok (.invokestatic 113, 3) := by decide +kernel
theorem dX6_read_147 : decode cX6_read 147 = .ok (.istore 6, 2) := by decide +kernel
theorem dX6_read_149 : decode cX6_read 149 = .ok (.aload_n 0, 1) := by decide +kernel
theorem dX6_read_150 : decode cX6_read 150 = .ok (.getfield 28, 3) := by decide +kernel
theorem dX6_read_153 : decode cX6_read 153 = .ok (.iload 4, 2) := by decide +kernel
theorem dX6_read_155 : decode cX6_read 155 = .ok (.iload 5, 2) := by decide +kernel
theorem dX6_read_157 : decode cX6_read 157 = .ok (.iload 6, 2) := by decide +kernel
theorem dX6_read_159 : decode cX6_read 159 = .ok (.ifCond .le 21, 3) := by decide +kernel
theorem dX6_read_162 : decode cX6_read 162 = .ok (.aload_n 0, 1) := by decide +kernel
theorem dX6_read_163 : decode cX6_read 163 = .ok (.aload_n 0, 1) := by decide +kernel
theorem dX6_read_164 : decode cX6_read 164 = .ok (.getfield 28, 3) := by decide +kernel
theorem dX6_read_167 : decode cX6_read 167 = .ok (.iload 4, 2) := by decide +kernel
theorem dX6_read_169 : decode cX6_read 169 = .ok (.iaload, 1) := by decide +kernel
theorem dX6_read_170 : decode cX6_read 170 = .ok (.iconst 0, 1) := by decide +kernel
theorem dX6_read_171 : decode cX6_read 171 = .ok (.invokestatic 106, 3) := by decide +kernel
theorem dX6_read_174 : decode cX6_read 174 = .ok (.invokevirtual 195, 3) := by decide +kernel
theorem dX6_read_177 : decode cX6_read 177 = .ok (.goto 4, 3) := by decide +kernel
theorem dX6_read_180 : decode cX6_read 180 = .ok (.iconst 0, 1) := by decide +kernel
theorem dX6_read_181 : decode cX6_read 181 = .ok (.iload 6, 2) := by decide +kernel
theorem dX6_read_183 : decode cX6_read 183 = .ok (.iconst 1, 1) := by decide +kernel
theorem dX6_read_184 : decode cX6_read 184 = .ok (.if_icmp .le 21, 3) := by decide +kernel
theorem dX6_read_187 : decode cX6_read 187 = .ok (.aload_n 0, 1) := by decide +kernel
theorem dX6_read_188 : decode cX6_read 188 = .ok (.aload_n 0, 1) := by decide +kernel
theorem dX6_read_189 : decode cX6_read 189 = .ok (.getfield 28, 3) := by decide +kernel
theorem dX6_read_192 : decode cX6_read 192 = .ok (.iload 4, 2) := by decide +kernel
theorem dX6_read_194 : decode cX6_read 194 = .ok (.iaload, 1) := by decide +kernel
theorem dX6_read_195 : decode cX6_read 195 = .ok (.iconst 1, 1) := by decide +kernel
theorem dX6_read_196 : decode cX6_read 196 = .ok (.invokestatic 106, 3) := by decide +kernel
theorem dX6_read_199 : decode cX6_read 199 = .ok (.invokevirtual 195, 3) := by decide +kernel
theorem dX6_read_202 : decode cX6_read 202 = .ok (.goto 4, 3) := by decide +kernel
theorem dX6_read_205 : decode cX6_read 205 = .ok (.iconst 0, 1) := by decide +kernel
theorem dX6_read_206 : decode cX6_read 206 = .ok (.invokestatic 98, 3) := by decide +kernel
theorem dX6_read_209 : decode cX6_read 209 = .ok (.iastore, 1) := by decide +kernel
theorem dX6_read_210 : decode cX6_read 210 = .ok (.iinc 4 1, 3) := by decide +kernel
theorem dX6_read_213 : decode cX6_read 213 = .ok (.goto (-96), 3) := by decide +kernel
theorem dX6_read_216 : decode cX6_read 216 = .ok (.iconst 0, 1) := by decide +kernel
theorem dX6_read_217 : decode cX6_read 217 = .ok (.istore 4, 2) := by decide +kernel
theorem dX6_read_219 : decode cX6_read 219 = .ok (.iload 4, 2) := by decide +kernel
theorem dX6_read_221 : decode cX6_read 221 = .ok (.bipush 8, 2) := by decide +kernel
theorem dX6_read_223 : decode cX6_read 223 = .ok (.if_icmp .ge 95, 3) := by decide +kernel
theorem dX6_read_226 : decode cX6_read 226 = .ok (.iload_n 2, 1) := by decide +kernel
theorem dX6_read_227 : decode cX6_read 227 = .ok (.iload 4, 2) := by decide +kernel
theorem dX6_read_229 : decode cX6_read 229 = .ok (.ishr, 1) := by decide +kernel
theorem dX6_read_230 : decode cX6_read 230 = .ok (.iconst 1, 1) := by decide +kernel
theorem dX6_read_231 : decode cX6_read 231 = .ok (.iand, 1) := by decide +kernel
theorem dX6_read_232 : decode cX6_read 232 = .ok (.iconst 1, 1) := by decide +kernel
theorem dX6_read_233 : decode cX6_read 233 = .ok (.if_icmp .ne 79, 3) := by decide +kernel
theorem dX6_read_236 : decode cX6_read 236 = .ok (.aload_n 0, 1) := by decide +kernel
theorem dX6_read_237 : decode cX6_read 237 = .ok (.aload_n 0, 1) := by decide +kernel
theorem dX6_read_238 : decode cX6_read 238 = .ok (.aload_n 0, 1) := by decide +kernel
theorem dX6_read_239 : decode cX6_read 239 = .ok (.getfield 61, 3) := by decide +kernel
theorem dX6_read_242 : decode cX6_read 242 = .ok (.iload 4, 2) := by decide +kernel
theorem dX6_read_244 : decode cX6_read 244 = .ok (.iaload, 1) := by decide +kernel
theorem dX6_read_245 : decode cX6_read 245 = .ok (.invokevirtual 195, 3) := by decide +kernel
theorem dX6_read_248 : decode cX6_read 248 = .ok (.invokevirtual 135, 3) := by decide +kernel
theorem dX6_read_251 : decode cX6_read 251 = .ok (.bipush 40, 2) := by decide +kernel
theorem dX6_read_253 : decode cX6_read 253 = .ok (.if_icmp .le 10, 3) := by decide +kernel
theorem dX6_read_256 : decode cX6_read 256 = .ok (.aload_n 0, 1) := by decide +kernel
theorem dX6_read_257 : decode cX6_read 257 = .ok (.bipush (-4), 2) := by decide +kernel
theorem dX6_read_259 : decode cX6_read 259 = .ok (.invokevirtual 138, 3) := by decide +kernel
theorem dX6_read_262 : decode cX6_read 262 = .ok (.ireturn, 1) := by decide +kernel
theorem dX6_read_263 : decode cX6_read 263 = .ok (.iconst 0, 1) := by decide +kernel
theorem dX6_read_264 : decode cX6_read 264 = .ok (.istore 5, 2) := by decide +kernel
theorem dX6_read_266 : decode cX6_read 266 = .ok (.iload 5, 2) := by decide +kernel
theorem dX6_read_268 : decode cX6_read 268 = .ok (.aload_n 0, 1) := by decide +kernel
theorem dX6_read_269 : decode cX6_read 269 = .ok (.getfield 129, 3) := by decide +kernel
theorem dX6_read_272 : decode cX6_read 272 = .ok (.if_icmp .ge 29, 3) := by decide +kernel
theorem dX6_read_275 : decode cX6_read 275 = .ok (.aload_n 0, 1) := by decide +kernel
theorem dX6_read_276 : decode cX6_read 276 = .ok (.getfield 76, 3) := by decide +kernel
theorem dX6_read_279 : decode cX6_read 279 = .ok (.bipush 40, 2) := by decide +kernel
theorem dX6_read_281 : decode cX6_read 281 = .ok (.iload 4, 2) := by decide +kernel
theorem dX6_read_283 : decode cX6_read 283 = .ok (.imul, 1) := by decide +kernel
theorem dX6_read_284 : decode cX6_read 284 = .ok (.iload 5, 2) := by decide +kernel
theorem dX6_read_286 : decode cX6_read 286 = .ok (.iadd, 1) := by decide +kernel
theorem dX6_read_287 : decode cX6_read 287 = .ok (.aload_n 0, 1) := by decide +kernel
theorem dX6_read_288 : decode cX6_read 288 = .ok (.getfield 46, 3) := by decide +kernel
theorem dX6_read_291 : decode cX6_read 291 = .ok (.iload 5, 2) := by decide +kernel
theorem dX6_read_293 : decode cX6_read 293 = .ok (.iaload, 1) := by decide +kernel
theorem dX6_read_294 : decode cX6_read 294 = .ok (.iastore, 1) := by decide +kernel
theorem dX6_read_295 : decode cX6_read 295 = .ok (.iinc 5 1, 3) := by decide +kernel
theorem dX6_read_298 : decode cX6_read 298 = .ok (.goto (-32), 3) := by decide +kernel
theorem dX6_read_301 : decode cX6_read 301 = .ok (.aload_n 0, 1) := by decide +kernel
theorem dX6_read_302 : decode cX6_read 302 = .ok (.getfield 79, 3) := by decide +kernel
theorem dX6_read_305 : decode cX6_read 305 = .ok (.iload 4, 2) := by decide +kernel
theorem dX6_read_307 : decode cX6_read 307 = .ok (.aload_n 0, 1) := by decide +kernel
theorem dX6_read_308 : decode cX6_read 308 = .ok (.getfield 129, 3) := by decide +kernel
theorem dX6_read_311 : decode cX6_read 311 = .ok (.iastore, 1) := by decide +kernel
theorem dX6_read_312 : decode cX6_read 312 = .ok (.iinc 4 1, 3) := by decide +kernel
theorem dX6_read_315 : decode cX6_read 315 = .ok (.goto (-96), 3) := by decide +kernel
theorem dX6_read_318 : decode cX6_read 318 = .ok (.aload_n 0, 1) := by decide +kernel
theorem dX6_read_319 : decode cX6_read 319 = .ok (.invokevirtual 141, 3) := by decide +kernel
theorem dX6_read_322 : decode cX6_read 322 = .ok (.iconst 0, 1) := by decide +kernel
theorem dX6_read_323 : decode cX6_read 323 = .ok (.istore 4, 2) := by decide +kernel
theorem dX6_read_325 : decode cX6_read 325 = .ok (.iload 4, 2) := by decide +kernel
theorem dX6_read_327 : decode cX6_read 327 = .ok (.bipush 8, 2) := by decide +kernel
theorem dX6_read_329 : decode cX6_read 329 = .ok (.if_icmp .ge 80, 3) := by decide +kernel
theorem dX6_read_332 : decode cX6_read 332 = .ok (.iload_n 2, 1) := by decide +kernel
theorem dX6_read_333 : decode cX6_read 333 = .ok (.iload 4, 2) := by decide +kernel
theorem dX6_read_335 : decode cX6_read 335 = .ok (.ishr, 1) := by decide +kernel
theorem dX6_read_336 : decode cX6_read 336 = .ok (.iconst 1, 1) := by decide +kernel
theorem dX6_read_337 : decode cX6_read 337 = .ok (.iand, 1) := by decide +kernel
theorem dX6_read_338 : decode cX6_read 338 = .ok (.iconst 1, 1) := by decide +kernel
theorem dX6_read_339 : decode cX6_read 339 = .ok (.if_icmp .ne 64, 3) := by decide +kernel
theorem dX6_read_342 : decode cX6_read 342 = .ok (.iconst 0, 1) := by decide +kernel
theorem dX6_read_343 : decode cX6_read 343 = .ok (.istore 5, 2) := by decide +kernel
theorem dX6_read_345 : decode cX6_read 345 = .ok (.iload 5, 2) := by decide +kernel
theorem dX6_read_347 : decode cX6_read 347 = .ok (.aload_n 0, 1) := by decide +kernel
theorem dX6_read_348 : decode cX6_read 348 = .ok (.getfield 79, 3) := by decide +kernel
theorem dX6_read_351 : decode cX6_read 351 = .ok (.iload 4, 2) := by decide +kernel
theorem dX6_read_353 : decode cX6_read 353 = .ok (.iaload, 1) := by decide +kernel
theorem dX6_read_354 : decode cX6_read 354 = .ok (.if_icmp .ge 35, 3) := by decide +kernel
theorem dX6_read_357 : decode cX6_read 357 = .ok (.aload_n 0, 1) := by decide +kernel
theorem dX6_read_358 : decode cX6_read 358 = .ok (.getfield 13, 3) := by decide +kernel
theorem dX6_read_361 : decode cX6_read 361 = .ok (.bipush 40, 2) := by decide +kernel
theorem dX6_read_363 : decode cX6_read 363 = .ok (.iload 4, 2) := by decide +kernel
theorem dX6_read_365 : decode cX6_read 365 = .ok (.imul, 1) := by decide +kernel
theorem dX6_read_366 : decode cX6_read 366 = .ok (.iload 5, 2) := by decide +kernel
theorem dX6_read_368 : decode cX6_read 368 = .ok (.iadd, 1) := by decide +kernel
theorem dX6_read_369 : decode cX6_read 369 = .ok (.aload_n 0, 1) := by decide +kernel
theorem dX6_read_370 : decode cX6_read 370 = .ok (.getfield 76, 3) := by decide +kernel
theorem dX6_read_373 : decode cX6_read 373 = .ok (.bipush 40, 2) := by decide +kernel
theorem dX6_read_375 : decode cX6_read 375 = .ok (.iload 4, 2) := by decide +kernel
theorem dX6_read_377 : decode cX6_read 377 = .ok (.imul, 1) := by decide +kernel
theorem dX6_read_378 : decode cX6_read 378 = .ok (.iload 5, 2) := by decide +kernel
theorem dX6_read_380 : decode cX6_read 380 = .ok (.iadd, 1) := by decide +kernel
theorem dX6_read_381 : decode cX6_read 381 = .ok (.iaload, 1) := by decide +kernel
theorem dX6_read_382 : decode cX6_read 382 = .ok (.iastore, 1) := by decide +kernel
theorem dX6_read_383 : decode cX6_read 383 = .ok (.iinc 5 1, 3) := by decide +kernel
theorem dX6_read_386 : decode cX6_read 386 = .ok (.goto (-41), 3) := by decide +kernel
theorem dX6_read_389 : decode cX6_read 389 = .ok (.aload_n 0, 1) := by decide +kernel
theorem dX6_read_390 : decode cX6_read 390 = .ok (.getfield 7, 3) := by decide +kernel
theorem dX6_read_393 : decode cX6_read 393 = .ok (.iload 4, 2) := by decide +kernel
theorem dX6_read_395 : decode cX6_read 395 = .ok (.aload_n 0, 1) := by decide +kernel
theorem dX6_read_396 : decode cX6_read 396 = .ok (.getfield 79, 3) := by decide +kernel
theorem dX6_read_399 : decode cX6_read 399 = .ok (.iload 4, 2) := by decide +kernel
theorem dX6_read_401 : decode cX6_read 401 = .ok (.iaload, 1) := by decide +kernel
theorem dX6_read_402 : decode cX6_read 402 = .ok (.iastore, 1) := by decide +kernel
theorem dX6_read_403 : decode cX6_read 403 = .ok (.iinc 4 1, 3) := by decide +kernel
theorem dX6_read_406 : decode cX6_read 406 = .ok (.goto (-81), 3) := by decide +kernel
theorem dX6_read_409 : decode cX6_read 409 = .ok (.aload_n 0, 1) := by decide +kernel
theorem dX6_read_410 : decode cX6_read 410 = .ok (.getfield 180, 3) := by decide +kernel
theorem dX6_read_413 : decode cX6_read 413 = .ok (.ireturn, 1) := by decide +kernel
theorem dX6_order_0 : decode cX6_order 0 = .ok (.iload_n 1, 1) := by decide +kernel
theorem dX6_order_1 : decode cX6_order 1 = .ok (.iconst 0, 1) := by decide +kernel
theorem dX6_order_2 : decode cX6_order 2 = .ok (.iconst 4, 1) := by decide +kernel
theorem dX6_order_3 : decode cX6_order 3 = .ok (.invokestatic 86, 3) := by decide +kernel
theorem dX6_order_6 : decode cX6_order 6 = .ok (.ifCond .ne 10, 3) := by decide +kernel
theorem dX6_order_9 : decode cX6_order 9 = .ok (.aload_n 0, 1) := by decide +kernel
theorem dX6_order_10 : decode cX6_order 10 = .ok (.bipush (-2), 2) := by decide +kernel
theorem dX6_order_12 : decode cX6_order 12 = .ok (.invokevirtual 138, 3) := by decide +kernel
theorem dX6_order_15 : decode cX6_order 15 = .ok (.ireturn, 1) := by decide +kernel
theorem dX6_order_16 : decode cX6_order 16 = .ok (.aload_n 0, 1) := by decide +kernel
theorem dX6_order_17 : decode cX6_order 17 = .ok (.getfield 198, 3) := by decide +kernel
theorem dX6_order_20 : decode cX6_order 20 = .ok (.istore_n 2, 1) := by decide +kernel
theorem dX6_order_21 : decode cX6_order 21 = .ok (.aload_n 0, 1) := by decide +kernel
theorem dX6_order_22 : decode cX6_order 22 = .ok (.iload_n 1, 1) := by decide +kernel
theorem dX6_order_23 : decode cX6_order 23 = .ok (.putfield 198, 3) := by decide +kernel
theorem dX6_order_26 : decode cX6_order 26 = .ok (.iload_n 2, 1) := by decide +kernel
theorem dX6_order_27 : decode cX6_order 27 = .ok (.ireturn, 1) := by decide +kernel
theorem dX6_goes_0 : decode cX6_goes 0 = .ok (.aload_n 0, 1) := by decide +kernel
theorem dX6_goes_1 : decode cX6_goes 1 = .ok (.getfield 198, 3) := by decide +kernel
theorem dX6_goes_4 : decode cX6_goes 4 = .ok (.iconst 3, 1) := by decide +kernel
theorem dX6_goes_5 : decode cX6_goes 5 = .ok (.if_icmp .ne 25, 3) := by decide +kernel
theorem dX6_goes_8 : decode cX6_goes 8 = .ok (.iload_n 1, 1) := by decide +kernel
theorem dX6_goes_9 : decode cX6_goes 9 = .ok (.iload_n 2, 1) := by decide +kernel
theorem dX6_goes_10 : decode cX6_goes 10 = .ok (.if_icmp .eq 7, 3) := by decide +kernel
theorem dX6_goes_13 : decode cX6_goes 13 = .ok (.iconst 0, 1) := by decide +kernel
theorem dX6_goes_14 : decode cX6_goes 14 = .ok (.goto 15, 3) := by decide +kernel
theorem dX6_goes_17 : decode cX6_goes 17 = .ok (.iload_n 1, 1) := by decide +kernel
theorem dX6_goes_18 : decode cX6_goes 18 = .ok (.invokestatic 113, 3) := by decide +kernel
theorem dX6_goes_21 : decode cX6_goes 21 = .ok (.ifCond .le 7, 3) := by decide +kernel
theorem dX6_goes_24 : decode cX6_goes 24 = .ok (.iconst 2, 1) := by decide +kernel
theorem dX6_goes_25 : decode cX6_goes 25 = .ok (.goto 4, 3) := by decide +kernel
theorem dX6_goes_28 : decode cX6_goes 28 = .ok (.iconst 1, 1) := by decide +kernel
theorem dX6_goes_29 : decode cX6_goes 29 = .ok (.ireturn, 1) := by decide +kernel
theorem dX6_goes_30 : decode cX6_goes 30 = .ok (.iload_n 1, 1) := by decide +kernel
theorem dX6_goes_31 : decode cX6_goes 31 = .ok (.ifCond .eq 8, 3) := by decide +kernel
theorem dX6_goes_34 : decode cX6_goes 34 = .ok (.iload_n 2, 1) := by decide +kernel
theorem dX6_goes_35 : decode cX6_goes 35 = .ok (.iconst 3, 1) := by decide +kernel
theorem dX6_goes_36 : decode cX6_goes 36 = .ok (.if_icmp .ne 5, 3) := by decide +kernel
theorem dX6_goes_39 : decode cX6_goes 39 = .ok (.iconst 1, 1) := by decide +kernel
theorem dX6_goes_40 : decode cX6_goes 40 = .ok (.ireturn, 1) := by decide +kernel
theorem dX6_goes_41 : decode cX6_goes 41 = .ok (.iload_n 1, 1) := by decide +kernel
theorem dX6_goes_42 : decode cX6_goes 42 = .ok (.iload_n 2, 1) := by decide +kernel
theorem dX6_goes_43 : decode cX6_goes 43 = .ok (.if_icmp .ne 21, 3) := by decide +kernel
theorem dX6_goes_46 : decode cX6_goes 46 = .ok (.iload_n 1, 1) := by decide +kernel
theorem dX6_goes_47 : decode cX6_goes 47 = .ok (.iconst 3, 1) := by decide +kernel
theorem dX6_goes_48 : decode cX6_goes 48 = .ok (.if_icmp .eq 16, 3) := by decide +kernel
theorem dX6_goes_51 : decode cX6_goes 51 = .ok (.iload_n 1, 1) := by decide +kernel
theorem dX6_goes_52 : decode cX6_goes 52 = .ok (.invokestatic 113, 3) := by decide +kernel
theorem dX6_goes_55 : decode cX6_goes 55 = .ok (.ifCond .le 7, 3) := by decide +kernel
theorem dX6_goes_58 : decode cX6_goes 58 = .ok (.iconst 2, 1) := by decide +kernel
theorem dX6_goes_59 : decode cX6_goes 59 = .ok (.goto 4, 3) := by decide +kernel
theorem dX6_goes_62 : decode cX6_goes 62 = .ok (.iconst 1, 1) := by decide +kernel
theorem dX6_goes_63 : decode cX6_goes 63 = .ok (.ireturn, 1) := by decide +kernel
theorem dX6_goes_64 : decode cX6_goes 64 = .ok (.iload_n 1, 1) := by decide +kernel
theorem dX6_goes_65 : decode cX6_goes 65 = .ok (.iconst 1, 1) := by decide +kernel
theorem dX6_goes_66 : decode cX6_goes 66 = .ok (.if_icmp .ne 16, 3) := by decide +kernel
theorem dX6_goes_69 : decode cX6_goes 69 = .ok (.iload_n 2, 1) := by decide +kernel
theorem dX6_goes_70 : decode cX6_goes 70 = .ok (.iconst 2, 1) := by decide +kernel
theorem dX6_goes_71 : decode cX6_goes 71 = .ok (.if_icmp .ne 11, 3) := by decide +kernel
theorem dX6_goes_74 : decode cX6_goes 74 = .ok (.aload_n 0, 1) := by decide +kernel
theorem dX6_goes_75 : decode cX6_goes 75 = .ok (.getfield 198, 3) := by decide +kernel
theorem dX6_goes_78 : decode cX6_goes 78 = .ok (.iconst 1, 1) := by decide +kernel
theorem dX6_goes_79 : decode cX6_goes 79 = .ok (.if_icmp .ne 21, 3) := by decide +kernel
theorem dX6_goes_82 : decode cX6_goes 82 = .ok (.iload_n 1, 1) := by decide +kernel
theorem dX6_goes_83 : decode cX6_goes 83 = .ok (.iconst 2, 1) := by decide +kernel
theorem dX6_goes_84 : decode cX6_goes 84 = .ok (.if_icmp .ne 20, 3) := by decide +kernel
theorem dX6_goes_87 : decode cX6_goes 87 = .ok (.iload_n 2, 1) := by decide +kernel
theorem dX6_goes_88 : decode cX6_goes 88 = .ok (.iconst 1, 1) := by decide +kernel
theorem dX6_goes_89 : decode cX6_goes 89 = .ok (.if_icmp .ne 15, 3) := by decide +kernel
theorem dX6_goes_92 : decode cX6_goes 92 = .ok (.aload_n 0, 1) := by decide +kernel
theorem dX6_goes_93 : decode cX6_goes 93 = .ok (.getfield 198, 3) := by decide +kernel
theorem dX6_goes_96 : decode cX6_goes 96 = .ok (.iconst 4, 1) := by decide +kernel
theorem dX6_goes_97 : decode cX6_goes 97 = .ok (.if_icmp .ne 7, 3) := by decide +kernel
theorem dX6_goes_100 : decode cX6_goes 100 = .ok (.iconst 1, 1) := by decide +kernel
theorem dX6_goes_101 : decode cX6_goes 101 = .ok (.goto 4, 3) := by decide +kernel
theorem dX6_goes_104 : decode cX6_goes 104 = .ok (.iconst 0, 1) := by decide +kernel
theorem dX6_goes_105 : decode cX6_goes 105 = .ok (.ireturn, 1) := by decide +kernel
theorem dX6_clash_0 : decode cX6_clash 0 = .ok (.aload_n 0, 1) := by decide +kernel
theorem dX6_clash_1 : decode cX6_clash 1 = .ok (.getfield 94, 3) := by decide +kernel
theorem dX6_clash_4 : decode cX6_clash 4 = .ok (.istore_n 3, 1) := by decide +kernel
theorem dX6_clash_5 : decode cX6_clash 5 = .ok (.iconst 0, 1) := by decide +kernel
theorem dX6_clash_6 : decode cX6_clash 6 = .ok (.istore 4, 2) := by decide +kernel
theorem dX6_clash_8 : decode cX6_clash 8 = .ok (.iload 4, 2) := by decide +kernel
theorem dX6_clash_10 : decode cX6_clash 10 = .ok (.iload_n 3, 1) := by decide +kernel
theorem dX6_clash_11 : decode cX6_clash 11 = .ok (.iload_n 3, 1) := by decide +kernel
theorem dX6_clash_12 : decode cX6_clash 12 = .ok (.imul, 1) := by decide +kernel
theorem dX6_clash_13 : decode cX6_clash 13 = .ok (.if_icmp .ge 17, 3) := by decide +kernel
theorem dX6_clash_16 : decode cX6_clash 16 = .ok (.aload_n 0, 1) := by decide +kernel
theorem dX6_clash_17 : decode cX6_clash 17 = .ok (.getfield 49, 3) := by decide +kernel
theorem dX6_clash_20 : decode cX6_clash 20 = .ok (.iload 4, 2) := by decide +kernel
theorem dX6_clash_22 : decode cX6_clash 22 = .ok (.iconst 0, 1) := by decide +kernel
theorem dX6_clash_23 : decode cX6_clash 23 = .ok (.iastore, 1) := by decide +kernel
theorem dX6_clash_24 : decode cX6_clash 24 = .ok (.iinc 4 1, 3) := by decide +kernel
theorem dX6_clash_27 : decode cX6_clash 27 = .ok (.goto (-19), 3) := by decide +kernel
theorem dX6_clash_30 : decode cX6_clash 30 = .ok (.aload_n 0, 1) := by decide +kernel
theorem dX6_clash_31 : decode cX6_clash 31 = .ok (.getfield 52, 3) := by decide +kernel
theorem dX6_clash_34 : decode cX6_clash 34 = .ok (.iconst 0, 1) := by decide +kernel
theorem dX6_clash_35 : decode cX6_clash 35 = .ok (.iload_n 3, 1) := by decide +kernel
theorem dX6_clash_36 : decode cX6_clash 36 = .ok (.iload_n 1, 1) := by decide +kernel
theorem dX6_clash_37 : decode cX6_clash 37 = .ok (.imul, 1) := by decide +kernel
theorem dX6_clash_38 : decode cX6_clash 38 = .ok (.iload_n 2, 1) := by decide +kernel
theorem dX6_clash_39 : decode cX6_clash 39 = .ok (.iadd, 1) := by decide +kernel
theorem dX6_clash_40 : decode cX6_clash 40 = .ok (.iastore, 1) := by decide +kernel
theorem dX6_clash_41 : decode cX6_clash 41 = .ok (.aload_n 0, 1) := by decide +kernel
theorem dX6_clash_42 : decode cX6_clash 42 = .ok (.getfield 49, 3) := by decide +kernel
theorem dX6_clash_45 : decode cX6_clash 45 = .ok (.aload_n 0, 1) := by decide +kernel
theorem dX6_clash_46 : decode cX6_clash 46 = .ok (.getfield 52, 3) := by decide +kernel
theorem dX6_clash_49 : decode cX6_clash 49 = .ok (.iconst 0, 1) := by decide +kernel
theorem dX6_clash_50 : decode cX6_clash 50 = .ok (.iaload, 1) := by decide +kernel
theorem dX6_clash_51 : decode cX6_clash 51 = .ok (.iconst 1, 1) := by decide +kernel
theorem dX6_clash_52 : decode cX6_clash 52 = .ok (.iastore, 1) := by decide +kernel
theorem dX6_clash_53 : decode cX6_clash 53 = .ok (.aload_n 0, 1) := by decide +kernel
theorem dX6_clash_54 : decode cX6_clash 54 = .ok (.getfield 55, 3) := by decide +kernel
theorem dX6_clash_57 : decode cX6_clash 57 = .ok (.iconst 0, 1) := by decide +kernel
theorem dX6_clash_58 : decode cX6_clash 58 = .ok (.iconst (-1), 1) := by decide +kernel
theorem dX6_clash_59 : decode cX6_clash 59 = .ok (.iastore, 1) := by decide +kernel
theorem dX6_clash_60 : decode cX6_clash 60 = .ok (.iconst 1, 1) := by decide +kernel
theorem dX6_clash_61 : decode cX6_clash 61 = .ok (.istore 4, 2) := by decide +kernel
theorem dX6_clash_63 : decode cX6_clash 63 = .ok (.iconst 0, 1) := by decide +kernel
theorem dX6_clash_64 : decode cX6_clash 64 = .ok (.istore 5, 2) := by decide +kernel
theorem dX6_clash_66 : decode cX6_clash 66 = .ok (.iload 5, 2) := by decide +kernel
theorem dX6_clash_68 : decode cX6_clash 68 = .ok (.iload 4, 2) := by decide +kernel
theorem dX6_clash_70 : decode cX6_clash 70 = .ok (.if_icmp .ge 223, 3) := by decide +kernel
theorem dX6_clash_73 : decode cX6_clash 73 = .ok (.aload_n 0, 1) := by decide +kernel
theorem dX6_clash_74 : decode cX6_clash 74 = .ok (.getfield 28, 3) := by decide +kernel
theorem dX6_clash_77 : decode cX6_clash 77 = .ok (.aload_n 0, 1) := by decide +kernel
theorem dX6_clash_78 : decode cX6_clash 78 = .ok (.getfield 52, 3) := by decide +kernel
theorem dX6_clash_81 : decode cX6_clash 81 = .ok (.iload 5, 2) := by decide +kernel
theorem dX6_clash_83 : decode cX6_clash 83 = .ok (.iaload, 1) := by decide +kernel
theorem dX6_clash_84 : decode cX6_clash 84 = .ok (.iload_n 3, 1) := by decide +kernel
theorem dX6_clash_85 : decode cX6_clash 85 = .ok (.idiv, 1) := by decide +kernel
theorem dX6_clash_86 : decode cX6_clash 86 = .ok (.iaload, 1) := by decide +kernel
theorem dX6_clash_87 : decode cX6_clash 87 = .ok (.istore 6, 2) := by decide +kernel
theorem dX6_clash_89 : decode cX6_clash 89 = .ok (.aload_n 0, 1) := by decide +kernel
theorem dX6_clash_90 : decode cX6_clash 90 = .ok (.getfield 28, 3) := by decide +kernel
theorem dX6_clash_93 : decode cX6_clash 93 = .ok (.aload_n 0, 1) := by decide +kernel
theorem dX6_clash_94 : decode cX6_clash 94 = .ok (.getfield 52, 3) := by decide +kernel
theorem dX6_clash_97 : decode cX6_clash 97 = .ok (.iload 5, 2) := by decide +kernel
theorem dX6_clash_99 : decode cX6_clash 99 = .ok (.iaload, 1) := by decide +kernel
theorem dX6_clash_100 : decode cX6_clash 100 = .ok (.iload_n 3, 1) := by decide +kernel
theorem dX6_clash_101 : decode cX6_clash 101 = .ok (.irem, 1) := by decide +kernel
theorem dX6_clash_102 : decode cX6_clash 102 = .ok (.iaload, 1) := by decide +kernel
theorem dX6_clash_103 : decode cX6_clash 103 = .ok (.istore 7, 2) := by decide +kernel
theorem dX6_clash_105 : decode cX6_clash 105 = .ok (.aload_n 0, 1) := by decide +kernel
theorem dX6_clash_106 : decode cX6_clash 106 = .ok (.iload 6, 2) := by decide +kernel
theorem dX6_clash_108 : decode cX6_clash 108 = .ok (.invokestatic 102, 3) := by decide +kernel
theorem dX6_clash_111 : decode cX6_clash 111 = .ok (.iload 7, 2) := by decide +kernel
theorem dX6_clash_113 : decode cX6_clash 113 = .ok (.invokestatic 102, 3) := by decide +kernel
theorem dX6_clash_116 : decode cX6_clash 116 = .ok (.invokevirtual 201, 3) := by decide +kernel
theorem dX6_clash_119 : decode cX6_clash 119 = .ok (.istore 8, 2) := by decide +kernel
theorem dX6_clash_121 : decode cX6_clash 121 = .ok (.iload 8, 2) := by decide +kernel
theorem dX6_clash_123 : decode cX6_clash 123 = .ok (.ifCond .ne 6, 3) := by decide +kernel
theorem dX6_clash_126 : decode cX6_clash 126 = .ok (.iload 5, 2) := by decide +kernel
theorem dX6_clash_128 : decode cX6_clash 128 = .ok (.ireturn, 1) := by decide +kernel
theorem dX6_clash_129 : decode cX6_clash 129 = .ok (.iconst 0, 1) := by decide +kernel
theorem dX6_clash_130 : decode cX6_clash 130 = .ok (.istore 9, 2) := by decide +kernel
theorem dX6_clash_132 : decode cX6_clash 132 = .ok (.iload 9, 2) := by decide +kernel
theorem dX6_clash_134 : decode cX6_clash 134 = .ok (.iload 6, 2) := by decide +kernel
theorem dX6_clash_136 : decode cX6_clash 136 = .ok (.invokestatic 102, 3) := by decide +kernel
theorem dX6_clash_139 : decode cX6_clash 139 = .ok (.invokestatic 113, 3) := by decide +kernel
theorem dX6_clash_142 : decode cX6_clash 142 = .ok (.if_icmp .ge 145, 3) := by decide +kernel
theorem dX6_clash_145 : decode cX6_clash 145 = .ok (.iload 8, 2) := by decide +kernel
theorem dX6_clash_147 : decode cX6_clash 147 = .ok (.iconst 2, 1) := by decide +kernel
theorem dX6_clash_148 : decode cX6_clash 148 = .ok (.if_icmp .ne 139, 3) := by decide +kernel
theorem dX6_clash_151 : decode cX6_clash 151 = .ok (.iload 6, 2) := by decide +kernel
theorem dX6_clash_153 : decode cX6_clash 153 = .ok (.invokestatic 102, 3) := by decide +kernel
theorem dX6_clash_156 : decode cX6_clash 156 = .ok (.bipush 6, 2) := by decide +kernel
theorem dX6_clash_158 : decode cX6_clash 158 = .ok (.if_icmp .ne 28, 3) := by decide +kernel
theorem dX6_clash_161 : decode cX6_clash 161 = .ok (.iload 9, 2) := by decide +kernel
theorem dX6_clash_163 : decode cX6_clash 163 = .ok (.ifCond .ne 23, 3) := by decide +kernel
theorem dX6_clash_166 : decode cX6_clash 166 = .ok (.aload_n 0, 1) := by decide +kernel
theorem dX6_clash_167 : decode cX6_clash 167 = .ok (.getfield 198, 3) := by decide +kernel
theorem dX6_clash_170 : decode cX6_clash 170 = .ok (.iconst 2, 1) := by decide +kernel
theorem dX6_clash_171 : decode cX6_clash 171 = .ok (.if_icmp .eq 15, 3) := by decide +kernel
theorem dX6_clash_174 : decode cX6_clash 174 = .ok (.aload_n 0, 1) := by decide +kernel
theorem dX6_clash_175 : decode cX6_clash 175 = .ok (.getfield 198, 3) := by decide +kernel
theorem dX6_clash_178 : decode cX6_clash 178 = .ok (.iconst 4, 1) := by decide +kernel
theorem dX6_clash_179 : decode cX6_clash 179 = .ok (.if_icmp .eq 7, 3) := by decide +kernel
theorem dX6_clash_182 : decode cX6_clash 182 = .ok (.iconst 1, 1) := by decide +kernel
theorem dX6_clash_183 : decode cX6_clash 183 = .ok (.goto 4, 3) := by decide +kernel
theorem dX6_clash_186 : decode cX6_clash 186 = .ok (.iconst 0, 1) := by decide +kernel
theorem dX6_clash_187 : decode cX6_clash 187 = .ok (.istore 10, 2) := by decide +kernel
theorem dX6_clash_189 : decode cX6_clash 189 = .ok (.iload 10, 2) := by decide +kernel
theorem dX6_clash_191 : decode cX6_clash 191 = .ok (.ifCond .eq 23, 3) := by decide +kernel
theorem dX6_clash_194 : decode cX6_clash 194 = .ok (.iload_n 3, 1) := by decide +kernel
theorem dX6_clash_195 : decode cX6_clash 195 = .ok (.iload 7, 2) := by decide +kernel
theorem dX6_clash_197 : decode cX6_clash 197 = .ok (.iload 9, 2) := by decide +kernel
theorem dX6_clash_199 : decode cX6_clash 199 = .ok (.invokestatic 106, 3) := by decide +kernel
theorem dX6_clash_202 : decode cX6_clash 202 = .ok (.imul, 1) := by decide +kernel
theorem dX6_clash_203 : decode cX6_clash 203 = .ok (.iload 6, 2) := by decide +kernel
theorem dX6_clash_205 : decode cX6_clash 205 = .ok (.iload 9, 2) := by decide +kernel
theorem dX6_clash_207 : decode cX6_clash 207 = .ok (.invokestatic 106, 3) := by decide +kernel
theorem dX6_clash_210 : decode cX6_clash 210 = .ok (.iadd, 1) := by decide +kernel
theorem dX6_clash_211 : decode cX6_clash 211 = .ok (.goto 20, 3) := by decide +kernel
theorem dX6_clash_214 : decode cX6_clash 214 = .ok (.iload_n 3, 1) := by decide +kernel
theorem dX6_clash_215 : decode cX6_clash 215 = .ok (.iload 6, 2) := by decide +kernel
theorem dX6_clash_217 : decode cX6_clash 217 = .ok (.iload 9, 2) := by decide +kernel
theorem dX6_clash_219 : decode cX6_clash 219 = .ok (.invokestatic 106, 3) := by decide +kernel
theorem dX6_clash_222 : decode cX6_clash 222 = .ok (.imul, 1) := by decide +kernel
theorem dX6_clash_223 : decode cX6_clash 223 = .ok (.iload 7, 2) := by decide +kernel
theorem dX6_clash_225 : decode cX6_clash 225 = .ok (.iload 9, 2) := by decide +kernel
theorem dX6_clash_227 : decode cX6_clash 227 = .ok (.invokestatic 106, 3) := by decide +kernel
theorem dX6_clash_230 : decode cX6_clash 230 = .ok (.iadd, 1) := by decide +kernel
theorem dX6_clash_231 : decode cX6_clash 231 = .ok (.istore 11, 2) := by decide +kernel
theorem dX6_clash_233 : decode cX6_clash 233 = .ok (.aload_n 0, 1) := by decide +kernel
theorem dX6_clash_234 : decode cX6_clash 234 = .ok (.getfield 49, 3) := by decide +kernel
theorem dX6_clash_237 : decode cX6_clash 237 = .ok (.iload 11, 2) := by decide +kernel
theorem dX6_clash_239 : decode cX6_clash 239 = .ok (.iaload, 1) := by decide +kernel
theorem dX6_clash_240 : decode cX6_clash 240 = .ok (.ifCond .ne 41, 3) := by decide +kernel
theorem dX6_clash_243 : decode cX6_clash 243 = .ok (.aload_n 0, 1) := by decide +kernel
theorem dX6_clash_244 : decode cX6_clash 244 = .ok (.getfield 49, 3) := by decide +kernel
theorem dX6_clash_247 : decode cX6_clash 247 = .ok (.iload 11, 2) := by decide +kernel
theorem dX6_clash_249 : decode cX6_clash 249 = .ok (.iconst 1, 1) := by decide +kernel
theorem dX6_clash_250 : decode cX6_clash 250 = .ok (.iastore, 1) := by decide +kernel
theorem dX6_clash_251 : decode cX6_clash 251 = .ok (.aload_n 0, 1) := by decide +kernel
theorem dX6_clash_252 : decode cX6_clash 252 = .ok (.getfield 52, 3) := by decide +kernel
theorem dX6_clash_255 : decode cX6_clash 255 = .ok (.iload 4, 2) := by decide +kernel
theorem dX6_clash_257 : decode cX6_clash 257 = .ok (.iload 11, 2) := by decide +kernel
theorem dX6_clash_259 : decode cX6_clash 259 = .ok (.iastore, 1) := by decide +kernel
theorem dX6_clash_260 : decode cX6_clash 260 = .ok (.aload_n 0, 1) := by decide +kernel
theorem dX6_clash_261 : decode cX6_clash 261 = .ok (.getfield 55, 3) := by decide +kernel
theorem dX6_clash_264 : decode cX6_clash 264 = .ok (.iload 4, 2) := by decide +kernel
theorem dX6_clash_266 : decode cX6_clash 266 = .ok (.iload 5, 2) := by decide +kernel
theorem dX6_clash_268 : decode cX6_clash 268 = .ok (.iastore, 1) := by decide +kernel
theorem dX6_clash_269 : decode cX6_clash 269 = .ok (.aload_n 0, 1) := by decide +kernel
theorem dX6_clash_270 : decode cX6_clash 270 = .ok (.getfield 58, 3) := by decide +kernel
theorem dX6_clash_273 : decode cX6_clash 273 = .ok (.iload 4, 2) := by decide +kernel
theorem dX6_clash_275 : decode cX6_clash 275 = .ok (.iload 9, 2) := by decide +kernel
theorem dX6_clash_277 : decode cX6_clash 277 = .ok (.iastore, 1) := by decide +kernel
theorem dX6_clash_278 : decode cX6_clash 278 = .ok (.iinc 4 1, 3) := by decide +kernel
theorem dX6_clash_281 : decode cX6_clash 281 = .ok (.iinc 9 1, 3) := by decide +kernel
theorem dX6_clash_284 : decode cX6_clash 284 = .ok (.goto (-152), 3) := by decide +kernel
theorem dX6_clash_287 : decode cX6_clash 287 = .ok (.iinc 5 1, 3) := by decide +kernel
theorem dX6_clash_290 : decode cX6_clash 290 = .ok (.goto (-224), 3) := by decide +kernel
theorem dX6_clash_293 : decode cX6_clash 293 = .ok (.iconst (-1), 1) := by decide +kernel
theorem dX6_clash_294 : decode cX6_clash 294 = .ok (.ireturn, 1) := by decide +kernel
theorem dX6_both_0 : decode cX6_both 0 = .ok (.aload_n 0, 1) := by decide +kernel
theorem dX6_both_1 : decode cX6_both 1 = .ok (.iconst 0, 1) := by decide +kernel
theorem dX6_both_2 : decode cX6_both 2 = .ok (.putfield 94, 3) := by decide +kernel
theorem dX6_both_5 : decode cX6_both 5 = .ok (.aload_n 0, 1) := by decide +kernel
theorem dX6_both_6 : decode cX6_both 6 = .ok (.iload_n 1, 1) := by decide +kernel
theorem dX6_both_7 : decode cX6_both 7 = .ok (.invokevirtual 192, 3) := by decide +kernel
theorem dX6_both_10 : decode cX6_both 10 = .ok (.pop, 1) := by decide +kernel
theorem dX6_both_11 : decode cX6_both 11 = .ok (.aload_n 0, 1) := by decide +kernel
theorem dX6_both_12 : decode cX6_both 12 = .ok (.iload_n 2, 1) := by decide +kernel
theorem dX6_both_13 : decode cX6_both 13 = .ok (.invokevirtual 192, 3) := by decide +kernel
theorem dX6_both_16 : decode cX6_both 16 = .ok (.ireturn, 1) := by decide +kernel
theorem dX6_under_0 : decode cX6_under 0 = .ok (.aload_n 0, 1) := by decide +kernel
theorem dX6_under_1 : decode cX6_under 1 = .ok (.iload_n 1, 1) := by decide +kernel
theorem dX6_under_2 : decode cX6_under 2 = .ok (.invokevirtual 204, 3) := by decide +kernel
theorem dX6_under_5 : decode cX6_under 5 = .ok (.ifCond .eq 11, 3) := by decide +kernel
theorem dX6_under_8 : decode cX6_under 8 = .ok (.aload_n 0, 1) := by decide +kernel
theorem dX6_under_9 : decode cX6_under 9 = .ok (.iload_n 2, 1) := by decide +kernel
theorem dX6_under_10 : decode cX6_under 10 = .ok (.invokevirtual 204, 3) := by decide +kernel
theorem dX6_under_13 : decode cX6_under 13 = .ok (.ifCond .ne 10, 3) := by decide +kernel
theorem dX6_under_16 : decode cX6_under 16 = .ok (.aload_n 0, 1) := by decide +kernel
theorem dX6_under_17 : decode cX6_under 17 = .ok (.bipush (-2), 2) := by decide +kernel
theorem dX6_under_19 : decode cX6_under 19 = .ok (.invokevirtual 138, 3) := by decide +kernel
theorem dX6_under_22 : decode cX6_under 22 = .ok (.ireturn, 1) := by decide +kernel
theorem dX6_under_23 : decode cX6_under 23 = .ok (.aload_n 0, 1) := by decide +kernel
theorem dX6_under_24 : decode cX6_under 24 = .ok (.iload_n 1, 1) := by decide +kernel
theorem dX6_under_25 : decode cX6_under 25 = .ok (.iload_n 2, 1) := by decide +kernel
theorem dX6_under_26 : decode cX6_under 26 = .ok (.invokevirtual 207, 3) := by decide +kernel
theorem dX6_under_29 : decode cX6_under 29 = .ok (.istore_n 3, 1) := by decide +kernel
theorem dX6_under_30 : decode cX6_under 30 = .ok (.aload_n 0, 1) := by decide +kernel
theorem dX6_under_31 : decode cX6_under 31 = .ok (.iconst 0, 1) := by decide +kernel
theorem dX6_under_32 : decode cX6_under 32 = .ok (.iload_n 3, 1) := by decide +kernel
theorem dX6_under_33 : decode cX6_under 33 = .ok (.invokevirtual 210, 3) := by decide +kernel
theorem dX6_under_36 : decode cX6_under 36 = .ok (.iconst (-1), 1) := by decide +kernel
theorem dX6_under_37 : decode cX6_under 37 = .ok (.if_icmp .ne 7, 3) := by decide +kernel
theorem dX6_under_40 : decode cX6_under 40 = .ok (.iconst 1, 1) := by decide +kernel
theorem dX6_under_41 : decode cX6_under 41 = .ok (.goto 4, 3) := by decide +kernel
theorem dX6_under_44 : decode cX6_under 44 = .ok (.iconst 0, 1) := by decide +kernel
theorem dX6_under_45 : decode cX6_under 45 = .ok (.ireturn, 1) := by decide +kernel
theorem dX6_alike_0 : decode cX6_alike 0 = .ok (.aload_n 0, 1) := by decide +kernel
theorem dX6_alike_1 : decode cX6_alike 1 = .ok (.iload_n 1, 1) := by decide +kernel
theorem dX6_alike_2 : decode cX6_alike 2 = .ok (.invokevirtual 204, 3) := by decide +kernel
theorem dX6_alike_5 : decode cX6_alike 5 = .ok (.ifCond .eq 11, 3) := by decide +kernel
theorem dX6_alike_8 : decode cX6_alike 8 = .ok (.aload_n 0, 1) := by decide +kernel
theorem dX6_alike_9 : decode cX6_alike 9 = .ok (.iload_n 2, 1) := by decide +kernel
theorem dX6_alike_10 : decode cX6_alike 10 = .ok (.invokevirtual 204, 3) := by decide +kernel
theorem dX6_alike_13 : decode cX6_alike 13 = .ok (.ifCond .ne 10, 3) := by decide +kernel
theorem dX6_alike_16 : decode cX6_alike 16 = .ok (.aload_n 0, 1) := by decide +kernel
theorem dX6_alike_17 : decode cX6_alike 17 = .ok (.bipush (-2), 2) := by decide +kernel
theorem dX6_alike_19 : decode cX6_alike 19 = .ok (.invokevirtual 138, 3) := by decide +kernel
theorem dX6_alike_22 : decode cX6_alike 22 = .ok (.ireturn, 1) := by decide +kernel
theorem dX6_alike_23 : decode cX6_alike 23 = .ok (.aload_n 0, 1) := by decide +kernel
theorem dX6_alike_24 : decode cX6_alike 24 = .ok (.getfield 7, 3) := by decide +kernel
theorem dX6_alike_27 : decode cX6_alike 27 = .ok (.iload_n 1, 1) := by decide +kernel
theorem dX6_alike_28 : decode cX6_alike 28 = .ok (.iaload, 1) := by decide +kernel
theorem dX6_alike_29 : decode cX6_alike 29 = .ok (.aload_n 0, 1) := by decide +kernel
theorem dX6_alike_30 : decode cX6_alike 30 = .ok (.getfield 7, 3) := by decide +kernel
theorem dX6_alike_33 : decode cX6_alike 33 = .ok (.iload_n 2, 1) := by decide +kernel
theorem dX6_alike_34 : decode cX6_alike 34 = .ok (.iaload, 1) := by decide +kernel
theorem dX6_alike_35 : decode cX6_alike 35 = .ok (.if_icmp .ne 7, 3) := by decide +kernel
theorem dX6_alike_38 : decode cX6_alike 38 = .ok (.iconst 1, 1) := by decide +kernel
theorem dX6_alike_39 : decode cX6_alike 39 = .ok (.goto 4, 3) := by decide +kernel
theorem dX6_alike_42 : decode cX6_alike 42 = .ok (.iconst 0, 1) := by decide +kernel
theorem dX6_alike_43 : decode cX6_alike 43 = .ok (.istore_n 3, 1) := by decide +kernel
theorem dX6_alike_44 : decode cX6_alike 44 = .ok (.iconst 0, 1) := by decide +kernel
theorem dX6_alike_45 : decode cX6_alike 45 = .ok (.istore 4, 2) := by decide +kernel
theorem dX6_alike_47 : decode cX6_alike 47 = .ok (.iload 4, 2) := by decide +kernel
theorem dX6_alike_49 : decode cX6_alike 49 = .ok (.aload_n 0, 1) := by decide +kernel
theorem dX6_alike_50 : decode cX6_alike 50 = .ok (.getfield 7, 3) := by decide +kernel
theorem dX6_alike_53 : decode cX6_alike 53 = .ok (.iload_n 1, 1) := by decide +kernel
theorem dX6_alike_54 : decode cX6_alike 54 = .ok (.iaload, 1) := by decide +kernel
theorem dX6_alike_55 : decode cX6_alike 55 = .ok (.if_icmp .ge 46, 3) := by decide +kernel
theorem dX6_alike_58 : decode cX6_alike 58 = .ok (.iload_n 3, 1) := by decide +kernel
theorem dX6_alike_59 : decode cX6_alike 59 = .ok (.ifCond .eq 42, 3) := by decide +kernel
theorem dX6_alike_62 : decode cX6_alike 62 = .ok (.aload_n 0, 1) := by decide +kernel
theorem dX6_alike_63 : decode cX6_alike 63 = .ok (.getfield 13, 3) := by decide +kernel
theorem dX6_alike_66 : decode cX6_alike 66 = .ok (.bipush 40, 2) := by decide +kernel
theorem dX6_alike_68 : decode cX6_alike 68 = .ok (.iload_n 1, 1) := by decide +kernel
theorem dX6_alike_69 : decode cX6_alike 69 = .ok (.imul, 1) := by decide +kernel
theorem dX6_alike_70 : decode cX6_alike 70 = .ok (.iload 4, 2) := by decide +kernel
theorem dX6_alike_72 : decode cX6_alike 72 = .ok (.iadd, 1) := by decide +kernel
theorem dX6_alike_73 : decode cX6_alike 73 = .ok (.iaload, 1) := by decide +kernel
theorem dX6_alike_74 : decode cX6_alike 74 = .ok (.aload_n 0, 1) := by decide +kernel
theorem dX6_alike_75 : decode cX6_alike 75 = .ok (.getfield 13, 3) := by decide +kernel
theorem dX6_alike_78 : decode cX6_alike 78 = .ok (.bipush 40, 2) := by decide +kernel
theorem dX6_alike_80 : decode cX6_alike 80 = .ok (.iload_n 2, 1) := by decide +kernel
theorem dX6_alike_81 : decode cX6_alike 81 = .ok (.imul, 1) := by decide +kernel
theorem dX6_alike_82 : decode cX6_alike 82 = .ok (.iload 4, 2) := by decide +kernel
theorem dX6_alike_84 : decode cX6_alike 84 = .ok (.iadd, 1) := by decide +kernel
theorem dX6_alike_85 : decode cX6_alike 85 = .ok (.iaload, 1) := by decide +kernel
theorem dX6_alike_86 : decode cX6_alike 86 = .ok (.if_icmp .ne 7, 3) := by decide +kernel
theorem dX6_alike_89 : decode cX6_alike 89 = .ok (.iconst 1, 1) := by decide +kernel
theorem dX6_alike_90 : decode cX6_alike 90 = .ok (.goto 4, 3) := by decide +kernel
theorem dX6_alike_93 : decode cX6_alike 93 = .ok (.iconst 0, 1) := by decide +kernel
theorem dX6_alike_94 : decode cX6_alike 94 = .ok (.istore_n 3, 1) := by decide +kernel
theorem dX6_alike_95 : decode cX6_alike 95 = .ok (.iinc 4 1, 3) := by decide +kernel
theorem dX6_alike_98 : decode cX6_alike 98 = .ok (.goto (-51), 3) := by decide +kernel
theorem dX6_alike_101 : decode cX6_alike 101 = .ok (.iload_n 3, 1) := by decide +kernel
theorem dX6_alike_102 : decode cX6_alike 102 = .ok (.ifCond .eq 7, 3) := by decide +kernel
theorem dX6_alike_105 : decode cX6_alike 105 = .ok (.iconst 1, 1) := by decide +kernel
theorem dX6_alike_106 : decode cX6_alike 106 = .ok (.goto 4, 3) := by decide +kernel
theorem dX6_alike_109 : decode cX6_alike 109 = .ok (.iconst 0, 1) := by decide +kernel
theorem dX6_alike_110 : decode cX6_alike 110 = .ok (.ireturn, 1) := by decide +kernel
theorem dX6_apart_0 : decode cX6_apart 0 = .ok (.aload_n 0, 1) := by decide +kernel
theorem dX6_apart_1 : decode cX6_apart 1 = .ok (.iload_n 1, 1) := by decide +kernel
theorem dX6_apart_2 : decode cX6_apart 2 = .ok (.invokevirtual 204, 3) := by decide +kernel
theorem dX6_apart_5 : decode cX6_apart 5 = .ok (.ifCond .eq 16, 3) := by decide +kernel
theorem dX6_apart_8 : decode cX6_apart 8 = .ok (.aload_n 0, 1) := by decide +kernel
theorem dX6_apart_9 : decode cX6_apart 9 = .ok (.iload_n 2, 1) := by decide +kernel
theorem dX6_apart_10 : decode cX6_apart 10 = .ok (.invokevirtual 204, 3) := by decide +kernel
theorem dX6_apart_13 : decode cX6_apart 13 = .ok (.ifCond .eq 8, 3) := by decide +kernel
theorem dX6_apart_16 : decode cX6_apart 16 = .ok (.iload_n 3, 1) := by decide +kernel
theorem dX6_apart_17 : decode cX6_apart 17 = .ok (.iconst (-1), 1) := by decide +kernel
theorem dX6_apart_18 : decode cX6_apart 18 = .ok (.if_icmp .ge 17, 3) := by decide +kernel
theorem dX6_apart_21 : decode cX6_apart 21 = .ok (.aload_n 0, 1) := by decide +kernel
theorem dX6_apart_22 : decode cX6_apart 22 = .ok (.bipush (-2), 2) := by decide +kernel
theorem dX6_apart_24 : decode cX6_apart 24 = .ok (.invokevirtual 138, 3) := by decide +kernel
theorem dX6_apart_27 : decode cX6_apart 27 = .ok (.istore 4, 2) := by decide +kernel
theorem dX6_apart_29 : decode cX6_apart 29 = .ok (.iload 4, 2) := by decide +kernel
theorem dX6_apart_31 : decode cX6_apart 31 = .ok (.bipush 8, 2) := by decide +kernel
theorem dX6_apart_33 : decode cX6_apart 33 = .ok (.isub, 1) := by decide +kernel
theorem dX6_apart_34 : decode cX6_apart 34 = .ok (.ireturn, 1) := by decide +kernel
theorem dX6_apart_35 : decode cX6_apart 35 = .ok (.aload_n 0, 1) := by decide +kernel
theorem dX6_apart_36 : decode cX6_apart 36 = .ok (.iload_n 1, 1) := by decide +kernel
theorem dX6_apart_37 : decode cX6_apart 37 = .ok (.iload_n 2, 1) := by decide +kernel
theorem dX6_apart_38 : decode cX6_apart 38 = .ok (.invokevirtual 207, 3) := by decide +kernel
theorem dX6_apart_41 : decode cX6_apart 41 = .ok (.istore 4, 2) := by decide +kernel
theorem dX6_apart_43 : decode cX6_apart 43 = .ok (.aload_n 0, 1) := by decide +kernel
theorem dX6_apart_44 : decode cX6_apart 44 = .ok (.iconst 0, 1) := by decide +kernel
theorem dX6_apart_45 : decode cX6_apart 45 = .ok (.iload 4, 2) := by decide +kernel
theorem dX6_apart_47 : decode cX6_apart 47 = .ok (.invokevirtual 210, 3) := by decide +kernel
theorem dX6_apart_50 : decode cX6_apart 50 = .ok (.istore 5, 2) := by decide +kernel
theorem dX6_apart_52 : decode cX6_apart 52 = .ok (.iload 5, 2) := by decide +kernel
theorem dX6_apart_54 : decode cX6_apart 54 = .ok (.iconst (-1), 1) := by decide +kernel
theorem dX6_apart_55 : decode cX6_apart 55 = .ok (.if_icmp .ne 6, 3) := by decide +kernel
theorem dX6_apart_58 : decode cX6_apart 58 = .ok (.bipush (-6), 2) := by decide +kernel
theorem dX6_apart_60 : decode cX6_apart 60 = .ok (.ireturn, 1) := by decide +kernel
theorem dX6_apart_61 : decode cX6_apart 61 = .ok (.iconst 0, 1) := by decide +kernel
theorem dX6_apart_62 : decode cX6_apart 62 = .ok (.istore 6, 2) := by decide +kernel
theorem dX6_apart_64 : decode cX6_apart 64 = .ok (.iload 5, 2) := by decide +kernel
theorem dX6_apart_66 : decode cX6_apart 66 = .ok (.istore 7, 2) := by decide +kernel
theorem dX6_apart_68 : decode cX6_apart 68 = .ok (.aload_n 0, 1) := by decide +kernel
theorem dX6_apart_69 : decode cX6_apart 69 = .ok (.getfield 55, 3) := by decide +kernel
theorem dX6_apart_72 : decode cX6_apart 72 = .ok (.iload 7, 2) := by decide +kernel
theorem dX6_apart_74 : decode cX6_apart 74 = .ok (.iaload, 1) := by decide +kernel
theorem dX6_apart_75 : decode cX6_apart 75 = .ok (.ifCond .lt 18, 3) := by decide +kernel
theorem dX6_apart_78 : decode cX6_apart 78 = .ok (.iinc 6 1, 3) := by decide +kernel
theorem dX6_apart_81 : decode cX6_apart 81 = .ok (.aload_n 0, 1) := by decide +kernel
theorem dX6_apart_82 : decode cX6_apart 82 = .ok (.getfield 55, 3) := by decide +kernel
theorem dX6_apart_85 : decode cX6_apart 85 = .ok (.iload 7, 2) := by decide +kernel
theorem dX6_apart_87 : decode cX6_apart 87 = .ok (.iaload, 1) := by decide +kernel
theorem dX6_apart_88 : decode cX6_apart 88 = .ok (.istore 7, 2) := by decide +kernel
theorem dX6_apart_90 : decode cX6_apart 90 = .ok (.goto (-22), 3) := by decide +kernel
theorem dX6_apart_93 : decode cX6_apart 93 = .ok (.iload_n 3, 1) := by decide +kernel
theorem dX6_apart_94 : decode cX6_apart 94 = .ok (.iconst (-1), 1) := by decide +kernel
theorem dX6_apart_95 : decode cX6_apart 95 = .ok (.if_icmp .ne 6, 3) := by decide +kernel
theorem dX6_apart_98 : decode cX6_apart 98 = .ok (.iload 6, 2) := by decide +kernel
theorem dX6_apart_100 : decode cX6_apart 100 = .ok (.ireturn, 1) := by decide +kernel
theorem dX6_apart_101 : decode cX6_apart 101 = .ok (.iload_n 3, 1) := by decide +kernel
theorem dX6_apart_102 : decode cX6_apart 102 = .ok (.iload 6, 2) := by decide +kernel
theorem dX6_apart_104 : decode cX6_apart 104 = .ok (.if_icmp .lt 6, 3) := by decide +kernel
theorem dX6_apart_107 : decode cX6_apart 107 = .ok (.bipush (-5), 2) := by decide +kernel
theorem dX6_apart_109 : decode cX6_apart 109 = .ok (.ireturn, 1) := by decide +kernel
theorem dX6_apart_110 : decode cX6_apart 110 = .ok (.iload 5, 2) := by decide +kernel
theorem dX6_apart_112 : decode cX6_apart 112 = .ok (.istore 7, 2) := by decide +kernel
theorem dX6_apart_114 : decode cX6_apart 114 = .ok (.iload 6, 2) := by decide +kernel
theorem dX6_apart_116 : decode cX6_apart 116 = .ok (.iconst 1, 1) := by decide +kernel
theorem dX6_apart_117 : decode cX6_apart 117 = .ok (.isub, 1) := by decide +kernel
theorem dX6_apart_118 : decode cX6_apart 118 = .ok (.istore 8, 2) := by decide +kernel
theorem dX6_apart_120 : decode cX6_apart 120 = .ok (.iload 8, 2) := by decide +kernel
theorem dX6_apart_122 : decode cX6_apart 122 = .ok (.iload_n 3, 1) := by decide +kernel
theorem dX6_apart_123 : decode cX6_apart 123 = .ok (.if_icmp .le 18, 3) := by decide +kernel
theorem dX6_apart_126 : decode cX6_apart 126 = .ok (.aload_n 0, 1) := by decide +kernel
theorem dX6_apart_127 : decode cX6_apart 127 = .ok (.getfield 55, 3) := by decide +kernel
theorem dX6_apart_130 : decode cX6_apart 130 = .ok (.iload 7, 2) := by decide +kernel
theorem dX6_apart_132 : decode cX6_apart 132 = .ok (.iaload, 1) := by decide +kernel
theorem dX6_apart_133 : decode cX6_apart 133 = .ok (.istore 7, 2) := by decide +kernel
theorem dX6_apart_135 : decode cX6_apart 135 = .ok (.iinc 8 (-1), 3) := by decide +kernel
theorem dX6_apart_138 : decode cX6_apart 138 = .ok (.goto (-18), 3) := by decide +kernel
theorem dX6_apart_141 : decode cX6_apart 141 = .ok (.aload_n 0, 1) := by decide +kernel
theorem dX6_apart_142 : decode cX6_apart 142 = .ok (.getfield 58, 3) := by decide +kernel
theorem dX6_apart_145 : decode cX6_apart 145 = .ok (.iload 7, 2) := by decide +kernel
theorem dX6_apart_147 : decode cX6_apart 147 = .ok (.iaload, 1) := by decide +kernel
theorem dX6_apart_148 : decode cX6_apart 148 = .ok (.ireturn, 1) := by decide +kernel
theorem dX6_near_0 : decode cX6_near 0 = .ok (.aload_n 0, 1) := by decide +kernel
theorem dX6_near_1 : decode cX6_near 1 = .ok (.iload_n 1, 1) := by decide +kernel
theorem dX6_near_2 : decode cX6_near 2 = .ok (.invokevirtual 204, 3) := by decide +kernel
theorem dX6_near_5 : decode cX6_near 5 = .ok (.ifCond .eq 21, 3) := by decide +kernel
theorem dX6_near_8 : decode cX6_near 8 = .ok (.aload_n 0, 1) := by decide +kernel
theorem dX6_near_9 : decode cX6_near 9 = .ok (.iload_n 2, 1) := by decide +kernel
theorem dX6_near_10 : decode cX6_near 10 = .ok (.invokevirtual 204, 3) := by decide +kernel
theorem dX6_near_13 : decode cX6_near 13 = .ok (.ifCond .eq 13, 3) := by decide +kernel
theorem dX6_near_16 : decode cX6_near 16 = .ok (.iload_n 3, 1) := by decide +kernel
theorem dX6_near_17 : decode cX6_near 17 = .ok (.iconst 0, 1) := by decide +kernel
theorem dX6_near_18 : decode cX6_near 18 = .ok (.bipush 60, 2) := by decide +kernel
theorem dX6_near_20 : decode cX6_near 20 = .ok (.invokestatic 86, 3) := by decide +kernel
theorem dX6_near_23 : decode cX6_near 23 = .ok (.ifCond .ne 10, 3) := by decide +kernel
theorem dX6_near_26 : decode cX6_near 26 = .ok (.aload_n 0, 1) := by decide +kernel
theorem dX6_near_27 : decode cX6_near 27 = .ok (.bipush (-2), 2) := by decide +kernel
theorem dX6_near_29 : decode cX6_near 29 = .ok (.invokevirtual 138, 3) := by decide +kernel
theorem dX6_near_32 : decode cX6_near 32 = .ok (.ireturn, 1) := by decide +kernel
theorem dX6_near_33 : decode cX6_near 33 = .ok (.aload_n 0, 1) := by decide +kernel
theorem dX6_near_34 : decode cX6_near 34 = .ok (.iload_n 1, 1) := by decide +kernel
theorem dX6_near_35 : decode cX6_near 35 = .ok (.iload_n 2, 1) := by decide +kernel
theorem dX6_near_36 : decode cX6_near 36 = .ok (.invokevirtual 207, 3) := by decide +kernel
theorem dX6_near_39 : decode cX6_near 39 = .ok (.istore 4, 2) := by decide +kernel
theorem dX6_near_41 : decode cX6_near 41 = .ok (.aload_n 0, 1) := by decide +kernel
theorem dX6_near_42 : decode cX6_near 42 = .ok (.getfield 94, 3) := by decide +kernel
theorem dX6_near_45 : decode cX6_near 45 = .ok (.istore 5, 2) := by decide +kernel
theorem dX6_near_47 : decode cX6_near 47 = .ok (.iconst 0, 1) := by decide +kernel
theorem dX6_near_48 : decode cX6_near 48 = .ok (.istore 6, 2) := by decide +kernel
theorem dX6_near_50 : decode cX6_near 50 = .ok (.iload 6, 2) := by decide +kernel
theorem dX6_near_52 : decode cX6_near 52 = .ok (.iload 5, 2) := by decide +kernel
theorem dX6_near_54 : decode cX6_near 54 = .ok (.iload 5, 2) := by decide +kernel
theorem dX6_near_56 : decode cX6_near 56 = .ok (.imul, 1) := by decide +kernel
theorem dX6_near_57 : decode cX6_near 57 = .ok (.if_icmp .ge 17, 3) := by decide +kernel
theorem dX6_near_60 : decode cX6_near 60 = .ok (.aload_n 0, 1) := by decide +kernel
theorem dX6_near_61 : decode cX6_near 61 = .ok (.getfield 49, 3) := by decide +kernel
theorem dX6_near_64 : decode cX6_near 64 = .ok (.iload 6, 2) := by decide +kernel
theorem dX6_near_66 : decode cX6_near 66 = .ok (.iconst 0, 1) := by decide +kernel
theorem dX6_near_67 : decode cX6_near 67 = .ok (.iastore, 1) := by decide +kernel
theorem dX6_near_68 : decode cX6_near 68 = .ok (.iinc 6 1, 3) := by decide +kernel
theorem dX6_near_71 : decode cX6_near 71 = .ok (.goto (-21), 3) := by decide +kernel
theorem dX6_near_74 : decode cX6_near 74 = .ok (.aload_n 0, 1) := by decide +kernel
theorem dX6_near_75 : decode cX6_near 75 = .ok (.getfield 52, 3) := by decide +kernel
theorem dX6_near_78 : decode cX6_near 78 = .ok (.iconst 0, 1) := by decide +kernel
theorem dX6_near_79 : decode cX6_near 79 = .ok (.iload 4, 2) := by decide +kernel
theorem dX6_near_81 : decode cX6_near 81 = .ok (.iastore, 1) := by decide +kernel
theorem dX6_near_82 : decode cX6_near 82 = .ok (.aload_n 0, 1) := by decide +kernel
theorem dX6_near_83 : decode cX6_near 83 = .ok (.getfield 58, 3) := by decide +kernel
theorem dX6_near_86 : decode cX6_near 86 = .ok (.iconst 0, 1) := by decide +kernel
theorem dX6_near_87 : decode cX6_near 87 = .ok (.iconst 0, 1) := by decide +kernel
theorem dX6_near_88 : decode cX6_near 88 = .ok (.iastore, 1) := by decide +kernel
theorem dX6_near_89 : decode cX6_near 89 = .ok (.aload_n 0, 1) := by decide +kernel
theorem dX6_near_90 : decode cX6_near 90 = .ok (.getfield 49, 3) := by decide +kernel
theorem dX6_near_93 : decode cX6_near 93 = .ok (.iload 4, 2) := by decide +kernel
theorem dX6_near_95 : decode cX6_near 95 = .ok (.iconst 1, 1) := by decide +kernel
theorem dX6_near_96 : decode cX6_near 96 = .ok (.iastore, 1) := by decide +kernel
theorem dX6_near_97 : decode cX6_near 97 = .ok (.iconst 1, 1) := by decide +kernel
theorem dX6_near_98 : decode cX6_near 98 = .ok (.istore 6, 2) := by decide +kernel
theorem dX6_near_100 : decode cX6_near 100 = .ok (.iconst 0, 1) := by decide +kernel
theorem dX6_near_101 : decode cX6_near 101 = .ok (.istore 7, 2) := by decide +kernel
theorem dX6_near_103 : decode cX6_near 103 = .ok (.iload 7, 2) := by decide +kernel
theorem dX6_near_105 : decode cX6_near 105 = .ok (.iload 6, 2) := by decide +kernel
theorem dX6_near_107 : decode cX6_near 107 = .ok (.if_icmp .ge 157, 3) := by decide +kernel
theorem dX6_near_110 : decode cX6_near 110 = .ok (.aload_n 0, 1) := by decide +kernel
theorem dX6_near_111 : decode cX6_near 111 = .ok (.getfield 28, 3) := by decide +kernel
theorem dX6_near_114 : decode cX6_near 114 = .ok (.aload_n 0, 1) := by decide +kernel
theorem dX6_near_115 : decode cX6_near 115 = .ok (.getfield 52, 3) := by decide +kernel
theorem dX6_near_118 : decode cX6_near 118 = .ok (.iload 7, 2) := by decide +kernel
theorem dX6_near_120 : decode cX6_near 120 = .ok (.iaload, 1) := by decide +kernel
theorem dX6_near_121 : decode cX6_near 121 = .ok (.iload 5, 2) := by decide +kernel
theorem dX6_near_123 : decode cX6_near 123 = .ok (.idiv, 1) := by decide +kernel
theorem dX6_near_124 : decode cX6_near 124 = .ok (.iaload, 1) := by decide +kernel
theorem dX6_near_125 : decode cX6_near 125 = .ok (.istore 8, 2) := by decide +kernel
theorem dX6_near_127 : decode cX6_near 127 = .ok (.aload_n 0, 1) := by decide +kernel
theorem dX6_near_128 : decode cX6_near 128 = .ok (.getfield 28, 3) := by decide +kernel
theorem dX6_near_131 : decode cX6_near 131 = .ok (.aload_n 0, 1) := by decide +kernel
theorem dX6_near_132 : decode cX6_near 132 = .ok (.getfield 52, 3) := by decide +kernel
theorem dX6_near_135 : decode cX6_near 135 = .ok (.iload 7, 2) := by decide +kernel
theorem dX6_near_137 : decode cX6_near 137 = .ok (.iaload, 1) := by decide +kernel
theorem dX6_near_138 : decode cX6_near 138 = .ok (.iload 5, 2) := by decide +kernel
theorem dX6_near_140 : decode cX6_near 140 = .ok (.irem, 1) := by decide +kernel
theorem dX6_near_141 : decode cX6_near 141 = .ok (.iaload, 1) := by decide +kernel
theorem dX6_near_142 : decode cX6_near 142 = .ok (.istore 9, 2) := by decide +kernel
theorem dX6_near_144 : decode cX6_near 144 = .ok (.iload 8, 2) := by decide +kernel
theorem dX6_near_146 : decode cX6_near 146 = .ok (.invokestatic 102, 3) := by decide +kernel
theorem dX6_near_149 : decode cX6_near 149 = .ok (.iload 9, 2) := by decide +kernel
theorem dX6_near_151 : decode cX6_near 151 = .ok (.invokestatic 102, 3) := by decide +kernel
theorem dX6_near_154 : decode cX6_near 154 = .ok (.if_icmp .eq 5, 3) := by decide +kernel
theorem dX6_near_157 : decode cX6_near 157 = .ok (.iconst 0, 1) := by decide +kernel
theorem dX6_near_158 : decode cX6_near 158 = .ok (.ireturn, 1) := by decide +kernel
theorem dX6_near_159 : decode cX6_near 159 = .ok (.iconst 0, 1) := by decide +kernel
theorem dX6_near_160 : decode cX6_near 160 = .ok (.istore 10, 2) := by decide +kernel
theorem dX6_near_162 : decode cX6_near 162 = .ok (.iload 10, 2) := by decide +kernel
theorem dX6_near_164 : decode cX6_near 164 = .ok (.iload 8, 2) := by decide +kernel
theorem dX6_near_166 : decode cX6_near 166 = .ok (.invokestatic 102, 3) := by decide +kernel
theorem dX6_near_169 : decode cX6_near 169 = .ok (.invokestatic 113, 3) := by decide +kernel
theorem dX6_near_172 : decode cX6_near 172 = .ok (.if_icmp .ge 86, 3) := by decide +kernel
theorem dX6_near_175 : decode cX6_near 175 = .ok (.aload_n 0, 1) := by decide +kernel
theorem dX6_near_176 : decode cX6_near 176 = .ok (.getfield 58, 3) := by decide +kernel
theorem dX6_near_179 : decode cX6_near 179 = .ok (.iload 7, 2) := by decide +kernel
theorem dX6_near_181 : decode cX6_near 181 = .ok (.iaload, 1) := by decide +kernel
theorem dX6_near_182 : decode cX6_near 182 = .ok (.iload_n 3, 1) := by decide +kernel
theorem dX6_near_183 : decode cX6_near 183 = .ok (.if_icmp .ge 75, 3) := by decide +kernel
theorem dX6_near_186 : decode cX6_near 186 = .ok (.iload 5, 2) := by decide +kernel
theorem dX6_near_188 : decode cX6_near 188 = .ok (.iload 8, 2) := by decide +kernel
theorem dX6_near_190 : decode cX6_near 190 = .ok (.iload 10, 2) := by decide +kernel
theorem dX6_near_192 : decode cX6_near 192 = .ok (.invokestatic 106, 3) := by decide +kernel
theorem dX6_near_195 : decode cX6_near 195 = .ok (.imul, 1) := by decide +kernel
theorem dX6_near_196 : decode cX6_near 196 = .ok (.iload 9, 2) := by decide +kernel
theorem dX6_near_198 : decode cX6_near 198 = .ok (.iload 10, 2) := by decide +kernel
theorem dX6_near_200 : decode cX6_near 200 = .ok (.invokestatic 106, 3) := by decide +kernel
theorem dX6_near_203 : decode cX6_near 203 = .ok (.iadd, 1) := by decide +kernel
theorem dX6_near_204 : decode cX6_near 204 = .ok (.istore 11, 2) := by decide +kernel
theorem dX6_near_206 : decode cX6_near 206 = .ok (.aload_n 0, 1) := by decide +kernel
theorem dX6_near_207 : decode cX6_near 207 = .ok (.getfield 49, 3) := by decide +kernel
theorem dX6_near_210 : decode cX6_near 210 = .ok (.iload 11, 2) := by decide +kernel
theorem dX6_near_212 : decode cX6_near 212 = .ok (.iaload, 1) := by decide +kernel
theorem dX6_near_213 : decode cX6_near 213 = .ok (.ifCond .ne 39, 3) := by decide +kernel
theorem dX6_near_216 : decode cX6_near 216 = .ok (.aload_n 0, 1) := by decide +kernel
theorem dX6_near_217 : decode cX6_near 217 = .ok (.getfield 49, 3) := by decide +kernel
theorem dX6_near_220 : decode cX6_near 220 = .ok (.iload 11, 2) := by decide +kernel
theorem dX6_near_222 : decode cX6_near 222 = .ok (.iconst 1, 1) := by decide +kernel
theorem dX6_near_223 : decode cX6_near 223 = .ok (.iastore, 1) := by decide +kernel
theorem dX6_near_224 : decode cX6_near 224 = .ok (.aload_n 0, 1) := by decide +kernel
theorem dX6_near_225 : decode cX6_near 225 = .ok (.getfield 52, 3) := by decide +kernel
theorem dX6_near_228 : decode cX6_near 228 = .ok (.iload 6, 2) := by decide +kernel
theorem dX6_near_230 : decode cX6_near 230 = .ok (.iload 11, 2) := by decide +kernel
theorem dX6_near_232 : decode cX6_near 232 = .ok (.iastore, 1) := by decide +kernel
theorem dX6_near_233 : decode cX6_near 233 = .ok (.aload_n 0, 1) := by decide +kernel
theorem dX6_near_234 : decode cX6_near 234 = .ok (.getfield 58, 3) := by decide +kernel
theorem dX6_near_237 : decode cX6_near 237 = .ok (.iload 6, 2) := by decide +kernel
theorem dX6_near_239 : decode cX6_near 239 = .ok (.aload_n 0, 1) := by decide +kernel
theorem dX6_near_240 : decode cX6_near 240 = .ok (.getfield 58, 3) := by decide +kernel
theorem dX6_near_243 : decode cX6_near 243 = .ok (.iload 7, 2) := by decide +kernel
theorem dX6_near_245 : decode cX6_near 245 = .ok (.iaload, 1) := by decide +kernel
theorem dX6_near_246 : decode cX6_near 246 = .ok (.iconst 1, 1) := by decide +kernel
theorem dX6_near_247 : decode cX6_near 247 = .ok (.iadd, 1) := by decide +kernel
theorem dX6_near_248 : decode cX6_near 248 = .ok (.iastore, 1) := by decide +kernel
theorem dX6_near_249 : decode cX6_near 249 = .ok (.iinc 6 1, 3) := by decide +kernel
theorem dX6_near_252 : decode cX6_near 252 = .ok (.iinc 10 1, 3) := by decide +kernel
theorem dX6_near_255 : decode cX6_near 255 = .ok (.goto (-93), 3) := by decide +kernel
theorem dX6_near_258 : decode cX6_near 258 = .ok (.iinc 7 1, 3) := by decide +kernel
theorem dX6_near_261 : decode cX6_near 261 = .ok (.goto (-158), 3) := by decide +kernel
theorem dX6_near_264 : decode cX6_near 264 = .ok (.iconst 1, 1) := by decide +kernel
theorem dX6_near_265 : decode cX6_near 265 = .ok (.ireturn, 1) := by decide +kernel
theorem dX6_bothApart_0 : decode cX6_bothApart 0 = .ok (.aload_n 0, 1) := by decide +kernel
theorem dX6_bothApart_1 : decode cX6_bothApart 1 = .ok (.iload_n 1, 1) := by decide +kernel
theorem dX6_bothApart_2 : decode cX6_bothApart 2 = .ok (.iload_n 2, 1) := by decide +kernel
theorem dX6_bothApart_3 : decode cX6_bothApart 3 = .ok (.invokevirtual 207, 3) := by decide +kernel
theorem dX6_bothApart_6 : decode cX6_bothApart 6 = .ok (.istore_n 3, 1) := by decide +kernel
theorem dX6_bothApart_7 : decode cX6_bothApart 7 = .ok (.iconst 0, 1) := by decide +kernel
theorem dX6_bothApart_8 : decode cX6_bothApart 8 = .ok (.istore 4, 2) := by decide +kernel
theorem dX6_bothApart_10 : decode cX6_bothApart 10 = .ok (.iload 4, 2) := by decide +kernel
theorem dX6_bothApart_12 : decode cX6_bothApart 12 = .ok (.aload_n 0, 1) := by decide +kernel
theorem dX6_bothApart_13 : decode cX6_bothApart 13 = .ok (.getfield 94, 3) := by decide +kernel
theorem dX6_bothApart_16 : decode cX6_bothApart 16 = .ok (.if_icmp .ge 27, 3) := by decide +kernel
theorem dX6_bothApart_19 : decode cX6_bothApart 19 = .ok (.aload_n 0, 1) := by decide +kernel
theorem dX6_bothApart_20 : decode cX6_bothApart 20 = .ok (.getfield 31, 3) := by decide +kernel
theorem dX6_bothApart_23 : decode cX6_bothApart 23 = .ok (.iload 4, 2) := by decide +kernel
theorem dX6_bothApart_25 : decode cX6_bothApart 25 = .ok (.iload 4, 2) := by decide +kernel
theorem dX6_bothApart_27 : decode cX6_bothApart 27 = .ok (.iastore, 1) := by decide +kernel
theorem dX6_bothApart_28 : decode cX6_bothApart 28 = .ok (.aload_n 0, 1) := by decide +kernel
theorem dX6_bothApart_29 : decode cX6_bothApart 29 = .ok (.getfield 34, 3) := by decide +kernel
theorem dX6_bothApart_32 : decode cX6_bothApart 32 = .ok (.iload 4, 2) := by decide +kernel
theorem dX6_bothApart_34 : decode cX6_bothApart 34 = .ok (.iload 4, 2) := by decide +kernel
theorem dX6_bothApart_36 : decode cX6_bothApart 36 = .ok (.iastore, 1) := by decide +kernel
theorem dX6_bothApart_37 : decode cX6_bothApart 37 = .ok (.iinc 4 1, 3) := by decide +kernel
theorem dX6_bothApart_40 : decode cX6_bothApart 40 = .ok (.goto (-30), 3) := by decide +kernel
theorem dX6_bothApart_43 : decode cX6_bothApart 43 = .ok (.aload_n 0, 1) := by decide +kernel
theorem dX6_bothApart_44 : decode cX6_bothApart 44 = .ok (.aload_n 0, 1) := by decide +kernel
theorem dX6_bothApart_45 : decode cX6_bothApart 45 = .ok (.getfield 94, 3) := by decide +kernel
theorem dX6_bothApart_48 : decode cX6_bothApart 48 = .ok (.bipush 80, 2) := by decide +kernel
theorem dX6_bothApart_50 : decode cX6_bothApart 50 = .ok (.invokevirtual 126, 3) := by decide +kernel
theorem dX6_bothApart_53 : decode cX6_bothApart 53 = .ok (.pop, 1) := by decide +kernel
theorem dX6_bothApart_54 : decode cX6_bothApart 54 = .ok (.iload_n 3, 1) := by decide +kernel
theorem dX6_bothApart_55 : decode cX6_bothApart 55 = .ok (.ireturn, 1) := by decide +kernel
theorem dX6_shared_0 : decode cX6_shared 0 = .ok (.aload_n 0, 1) := by decide +kernel
theorem dX6_shared_1 : decode cX6_shared 1 = .ok (.iload_n 1, 1) := by decide +kernel
theorem dX6_shared_2 : decode cX6_shared 2 = .ok (.invokevirtual 204, 3) := by decide +kernel
theorem dX6_shared_5 : decode cX6_shared 5 = .ok (.ifCond .eq 11, 3) := by decide +kernel
theorem dX6_shared_8 : decode cX6_shared 8 = .ok (.aload_n 0, 1) := by decide +kernel
theorem dX6_shared_9 : decode cX6_shared 9 = .ok (.iload_n 2, 1) := by decide +kernel
theorem dX6_shared_10 : decode cX6_shared 10 = .ok (.invokevirtual 204, 3) := by decide +kernel
theorem dX6_shared_13 : decode cX6_shared 13 = .ok (.ifCond .ne 10, 3) := by decide +kernel
theorem dX6_shared_16 : decode cX6_shared 16 = .ok (.aload_n 0, 1) := by decide +kernel
theorem dX6_shared_17 : decode cX6_shared 17 = .ok (.bipush (-2), 2) := by decide +kernel
theorem dX6_shared_19 : decode cX6_shared 19 = .ok (.invokevirtual 138, 3) := by decide +kernel
theorem dX6_shared_22 : decode cX6_shared 22 = .ok (.ireturn, 1) := by decide +kernel
theorem dX6_shared_23 : decode cX6_shared 23 = .ok (.aload_n 0, 1) := by decide +kernel
theorem dX6_shared_24 : decode cX6_shared 24 = .ok (.iload_n 1, 1) := by decide +kernel
theorem dX6_shared_25 : decode cX6_shared 25 = .ok (.iload_n 2, 1) := by decide +kernel
theorem dX6_shared_26 : decode cX6_shared 26 = .ok (.invokevirtual 213, 3) := by decide +kernel
theorem dX6_shared_29 : decode cX6_shared 29 = .ok (.istore_n 3, 1) := by decide +kernel
theorem dX6_shared_30 : decode cX6_shared 30 = .ok (.iconst 0, 1) := by decide +kernel
theorem dX6_shared_31 : decode cX6_shared 31 = .ok (.istore 4, 2) := by decide +kernel
theorem dX6_shared_33 : decode cX6_shared 33 = .ok (.iconst 0, 1) := by decide +kernel
theorem dX6_shared_34 : decode cX6_shared 34 = .ok (.istore 5, 2) := by decide +kernel
theorem dX6_shared_36 : decode cX6_shared 36 = .ok (.iload 5, 2) := by decide +kernel
theorem dX6_shared_38 : decode cX6_shared 38 = .ok (.iload_n 3, 1) := by decide +kernel
theorem dX6_shared_39 : decode cX6_shared 39 = .ok (.if_icmp .ge 74, 3) := by decide +kernel
theorem dX6_shared_42 : decode cX6_shared 42 = .ok (.iconst 0, 1) := by decide +kernel
theorem dX6_shared_43 : decode cX6_shared 43 = .ok (.istore 6, 2) := by decide +kernel
theorem dX6_shared_45 : decode cX6_shared 45 = .ok (.iload_n 3, 1) := by decide +kernel
theorem dX6_shared_46 : decode cX6_shared 46 = .ok (.istore 7, 2) := by decide +kernel
theorem dX6_shared_48 : decode cX6_shared 48 = .ok (.iload 7, 2) := by decide +kernel
theorem dX6_shared_50 : decode cX6_shared 50 = .ok (.aload_n 0, 1) := by decide +kernel
theorem dX6_shared_51 : decode cX6_shared 51 = .ok (.getfield 94, 3) := by decide +kernel
theorem dX6_shared_54 : decode cX6_shared 54 = .ok (.if_icmp .ge 38, 3) := by decide +kernel
theorem dX6_shared_57 : decode cX6_shared 57 = .ok (.iload 6, 2) := by decide +kernel
theorem dX6_shared_59 : decode cX6_shared 59 = .ok (.ifCond .ne 20, 3) := by decide +kernel
theorem dX6_shared_62 : decode cX6_shared 62 = .ok (.aload_n 0, 1) := by decide +kernel
theorem dX6_shared_63 : decode cX6_shared 63 = .ok (.getfield 37, 3) := by decide +kernel
theorem dX6_shared_66 : decode cX6_shared 66 = .ok (.iload 7, 2) := by decide +kernel
theorem dX6_shared_68 : decode cX6_shared 68 = .ok (.iaload, 1) := by decide +kernel
theorem dX6_shared_69 : decode cX6_shared 69 = .ok (.aload_n 0, 1) := by decide +kernel
theorem dX6_shared_70 : decode cX6_shared 70 = .ok (.getfield 37, 3) := by decide +kernel
theorem dX6_shared_73 : decode cX6_shared 73 = .ok (.iload 5, 2) := by decide +kernel
theorem dX6_shared_75 : decode cX6_shared 75 = .ok (.iaload, 1) := by decide +kernel
theorem dX6_shared_76 : decode cX6_shared 76 = .ok (.if_icmp .ne 7, 3) := by decide +kernel
theorem dX6_shared_79 : decode cX6_shared 79 = .ok (.iconst 1, 1) := by decide +kernel
theorem dX6_shared_80 : decode cX6_shared 80 = .ok (.goto 4, 3) := by decide +kernel
theorem dX6_shared_83 : decode cX6_shared 83 = .ok (.iconst 0, 1) := by decide +kernel
theorem dX6_shared_84 : decode cX6_shared 84 = .ok (.istore 6, 2) := by decide +kernel
theorem dX6_shared_86 : decode cX6_shared 86 = .ok (.iinc 7 1, 3) := by decide +kernel
theorem dX6_shared_89 : decode cX6_shared 89 = .ok (.goto (-41), 3) := by decide +kernel
theorem dX6_shared_92 : decode cX6_shared 92 = .ok (.iload 4, 2) := by decide +kernel
theorem dX6_shared_94 : decode cX6_shared 94 = .ok (.iload 6, 2) := by decide +kernel
theorem dX6_shared_96 : decode cX6_shared 96 = .ok (.ifCond .eq 7, 3) := by decide +kernel
theorem dX6_shared_99 : decode cX6_shared 99 = .ok (.iconst 1, 1) := by decide +kernel
theorem dX6_shared_100 : decode cX6_shared 100 = .ok (.goto 4, 3) := by decide +kernel
theorem dX6_shared_103 : decode cX6_shared 103 = .ok (.iconst 0, 1) := by decide +kernel
theorem dX6_shared_104 : decode cX6_shared 104 = .ok (.iadd, 1) := by decide +kernel
theorem dX6_shared_105 : decode cX6_shared 105 = .ok (.istore 4, 2) := by decide +kernel
theorem dX6_shared_107 : decode cX6_shared 107 = .ok (.iinc 5 1, 3) := by decide +kernel
theorem dX6_shared_110 : decode cX6_shared 110 = .ok (.goto (-74), 3) := by decide +kernel
theorem dX6_shared_113 : decode cX6_shared 113 = .ok (.iload 4, 2) := by decide +kernel
theorem dX6_shared_115 : decode cX6_shared 115 = .ok (.ireturn, 1) := by decide +kernel
theorem dX6_way_0 : decode cX6_way 0 = .ok (.aload_n 0, 1) := by decide +kernel
theorem dX6_way_1 : decode cX6_way 1 = .ok (.iload_n 1, 1) := by decide +kernel
theorem dX6_way_2 : decode cX6_way 2 = .ok (.invokevirtual 204, 3) := by decide +kernel
theorem dX6_way_5 : decode cX6_way 5 = .ok (.ifCond .eq 11, 3) := by decide +kernel
theorem dX6_way_8 : decode cX6_way 8 = .ok (.aload_n 0, 1) := by decide +kernel
theorem dX6_way_9 : decode cX6_way 9 = .ok (.iload_n 2, 1) := by decide +kernel
theorem dX6_way_10 : decode cX6_way 10 = .ok (.invokevirtual 204, 3) := by decide +kernel
theorem dX6_way_13 : decode cX6_way 13 = .ok (.ifCond .ne 10, 3) := by decide +kernel
theorem dX6_way_16 : decode cX6_way 16 = .ok (.aload_n 0, 1) := by decide +kernel
theorem dX6_way_17 : decode cX6_way 17 = .ok (.bipush (-2), 2) := by decide +kernel
theorem dX6_way_19 : decode cX6_way 19 = .ok (.invokevirtual 138, 3) := by decide +kernel
theorem dX6_way_22 : decode cX6_way 22 = .ok (.ireturn, 1) := by decide +kernel
theorem dX6_way_23 : decode cX6_way 23 = .ok (.aload_n 0, 1) := by decide +kernel
theorem dX6_way_24 : decode cX6_way 24 = .ok (.iload_n 1, 1) := by decide +kernel
theorem dX6_way_25 : decode cX6_way 25 = .ok (.iload_n 2, 1) := by decide +kernel
theorem dX6_way_26 : decode cX6_way 26 = .ok (.invokevirtual 213, 3) := by decide +kernel
theorem dX6_way_29 : decode cX6_way 29 = .ok (.istore_n 3, 1) := by decide +kernel
theorem dX6_way_30 : decode cX6_way 30 = .ok (.aload_n 0, 1) := by decide +kernel
theorem dX6_way_31 : decode cX6_way 31 = .ok (.getfield 37, 3) := by decide +kernel
theorem dX6_way_34 : decode cX6_way 34 = .ok (.iload_n 3, 1) := by decide +kernel
theorem dX6_way_35 : decode cX6_way 35 = .ok (.iaload, 1) := by decide +kernel
theorem dX6_way_36 : decode cX6_way 36 = .ok (.istore 4, 2) := by decide +kernel
theorem dX6_way_38 : decode cX6_way 38 = .ok (.iconst 0, 1) := by decide +kernel
theorem dX6_way_39 : decode cX6_way 39 = .ok (.istore 5, 2) := by decide +kernel
theorem dX6_way_41 : decode cX6_way 41 = .ok (.iload 5, 2) := by decide +kernel
theorem dX6_way_43 : decode cX6_way 43 = .ok (.iload_n 3, 1) := by decide +kernel
theorem dX6_way_44 : decode cX6_way 44 = .ok (.if_icmp .ge 27, 3) := by decide +kernel
theorem dX6_way_47 : decode cX6_way 47 = .ok (.aload_n 0, 1) := by decide +kernel
theorem dX6_way_48 : decode cX6_way 48 = .ok (.getfield 58, 3) := by decide +kernel
theorem dX6_way_51 : decode cX6_way 51 = .ok (.iload 5, 2) := by decide +kernel
theorem dX6_way_53 : decode cX6_way 53 = .ok (.iload 5, 2) := by decide +kernel
theorem dX6_way_55 : decode cX6_way 55 = .ok (.ifCond .ne 7, 3) := by decide +kernel
theorem dX6_way_58 : decode cX6_way 58 = .ok (.iconst 0, 1) := by decide +kernel
theorem dX6_way_59 : decode cX6_way 59 = .ok (.goto 5, 3) := by decide +kernel
theorem dX6_way_62 : decode cX6_way 62 = .ok (.bipush 99, 2) := by decide +kernel
theorem dX6_way_64 : decode cX6_way 64 = .ok (.iastore, 1) := by decide +kernel
theorem dX6_way_65 : decode cX6_way 65 = .ok (.iinc 5 1, 3) := by decide +kernel
theorem dX6_way_68 : decode cX6_way 68 = .ok (.goto (-27), 3) := by decide +kernel
theorem dX6_way_71 : decode cX6_way 71 = .ok (.iconst 0, 1) := by decide +kernel
theorem dX6_way_72 : decode cX6_way 72 = .ok (.istore 5, 2) := by decide +kernel
theorem dX6_way_74 : decode cX6_way 74 = .ok (.iload 5, 2) := by decide +kernel
theorem dX6_way_76 : decode cX6_way 76 = .ok (.bipush 40, 2) := by decide +kernel
theorem dX6_way_78 : decode cX6_way 78 = .ok (.if_icmp .ge 110, 3) := by decide +kernel
theorem dX6_way_81 : decode cX6_way 81 = .ok (.iconst 0, 1) := by decide +kernel
theorem dX6_way_82 : decode cX6_way 82 = .ok (.istore 6, 2) := by decide +kernel
theorem dX6_way_84 : decode cX6_way 84 = .ok (.iload 6, 2) := by decide +kernel
theorem dX6_way_86 : decode cX6_way 86 = .ok (.iload_n 3, 1) := by decide +kernel
theorem dX6_way_87 : decode cX6_way 87 = .ok (.if_icmp .ge 95, 3) := by decide +kernel
theorem dX6_way_90 : decode cX6_way 90 = .ok (.iconst 0, 1) := by decide +kernel
theorem dX6_way_91 : decode cX6_way 91 = .ok (.istore 7, 2) := by decide +kernel
theorem dX6_way_93 : decode cX6_way 93 = .ok (.iload 7, 2) := by decide +kernel
theorem dX6_way_95 : decode cX6_way 95 = .ok (.aload_n 0, 1) := by decide +kernel
theorem dX6_way_96 : decode cX6_way 96 = .ok (.getfield 28, 3) := by decide +kernel
theorem dX6_way_99 : decode cX6_way 99 = .ok (.iload 6, 2) := by decide +kernel
theorem dX6_way_101 : decode cX6_way 101 = .ok (.iaload, 1) := by decide +kernel
theorem dX6_way_102 : decode cX6_way 102 = .ok (.invokestatic 102, 3) := by decide +kernel
theorem dX6_way_105 : decode cX6_way 105 = .ok (.invokestatic 113, 3) := by decide +kernel
theorem dX6_way_108 : decode cX6_way 108 = .ok (.if_icmp .ge 68, 3) := by decide +kernel
theorem dX6_way_111 : decode cX6_way 111 = .ok (.aload_n 0, 1) := by decide +kernel
theorem dX6_way_112 : decode cX6_way 112 = .ok (.getfield 28, 3) := by decide +kernel
theorem dX6_way_115 : decode cX6_way 115 = .ok (.iload 6, 2) := by decide +kernel
theorem dX6_way_117 : decode cX6_way 117 = .ok (.iaload, 1) := by decide +kernel
theorem dX6_way_118 : decode cX6_way 118 = .ok (.iload 7, 2) := by decide +kernel
theorem dX6_way_120 : decode cX6_way 120 = .ok (.invokestatic 106, 3) := by decide +kernel
theorem dX6_way_123 : decode cX6_way 123 = .ok (.istore 8, 2) := by decide +kernel
theorem dX6_way_125 : decode cX6_way 125 = .ok (.aload_n 0, 1) := by decide +kernel
theorem dX6_way_126 : decode cX6_way 126 = .ok (.getfield 58, 3) := by decide +kernel
theorem dX6_way_129 : decode cX6_way 129 = .ok (.iload 8, 2) := by decide +kernel
theorem dX6_way_131 : decode cX6_way 131 = .ok (.aload_n 0, 1) := by decide +kernel
theorem dX6_way_132 : decode cX6_way 132 = .ok (.getfield 58, 3) := by decide +kernel
theorem dX6_way_135 : decode cX6_way 135 = .ok (.iload 6, 2) := by decide +kernel
theorem dX6_way_137 : decode cX6_way 137 = .ok (.iaload, 1) := by decide +kernel
theorem dX6_way_138 : decode cX6_way 138 = .ok (.iconst 1, 1) := by decide +kernel
theorem dX6_way_139 : decode cX6_way 139 = .ok (.iadd, 1) := by decide +kernel
theorem dX6_way_140 : decode cX6_way 140 = .ok (.aload_n 0, 1) := by decide +kernel
theorem dX6_way_141 : decode cX6_way 141 = .ok (.getfield 58, 3) := by decide +kernel
theorem dX6_way_144 : decode cX6_way 144 = .ok (.iload 8, 2) := by decide +kernel
theorem dX6_way_146 : decode cX6_way 146 = .ok (.iaload, 1) := by decide +kernel
theorem dX6_way_147 : decode cX6_way 147 = .ok (.if_icmp .ge 15, 3) := by decide +kernel
theorem dX6_way_150 : decode cX6_way 150 = .ok (.aload_n 0, 1) := by decide +kernel
theorem dX6_way_151 : decode cX6_way 151 = .ok (.getfield 58, 3) := by decide +kernel
theorem dX6_way_154 : decode cX6_way 154 = .ok (.iload 6, 2) := by decide +kernel
theorem dX6_way_156 : decode cX6_way 156 = .ok (.iaload, 1) := by decide +kernel
theorem dX6_way_157 : decode cX6_way 157 = .ok (.iconst 1, 1) := by decide +kernel
theorem dX6_way_158 : decode cX6_way 158 = .ok (.iadd, 1) := by decide +kernel
theorem dX6_way_159 : decode cX6_way 159 = .ok (.goto 10, 3) := by decide +kernel
theorem dX6_way_162 : decode cX6_way 162 = .ok (.aload_n 0, 1) := by decide +kernel
theorem dX6_way_163 : decode cX6_way 163 = .ok (.getfield 58, 3) := by decide +kernel
theorem dX6_way_166 : decode cX6_way 166 = .ok (.iload 8, 2) := by decide +kernel
theorem dX6_way_168 : decode cX6_way 168 = .ok (.iaload, 1) := by decide +kernel
theorem dX6_way_169 : decode cX6_way 169 = .ok (.iastore, 1) := by decide +kernel
theorem dX6_way_170 : decode cX6_way 170 = .ok (.iinc 7 1, 3) := by decide +kernel
theorem dX6_way_173 : decode cX6_way 173 = .ok (.goto (-80), 3) := by decide +kernel
theorem dX6_way_176 : decode cX6_way 176 = .ok (.iinc 6 1, 3) := by decide +kernel
theorem dX6_way_179 : decode cX6_way 179 = .ok (.goto (-95), 3) := by decide +kernel
theorem dX6_way_182 : decode cX6_way 182 = .ok (.iinc 5 1, 3) := by decide +kernel
theorem dX6_way_185 : decode cX6_way 185 = .ok (.goto (-111), 3) := by decide +kernel
theorem dX6_way_188 : decode cX6_way 188 = .ok (.iconst (-1), 1) := by decide +kernel
theorem dX6_way_189 : decode cX6_way 189 = .ok (.istore 5, 2) := by decide +kernel
theorem dX6_way_191 : decode cX6_way 191 = .ok (.iconst 0, 1) := by decide +kernel
theorem dX6_way_192 : decode cX6_way 192 = .ok (.istore 6, 2) := by decide +kernel
theorem dX6_way_194 : decode cX6_way 194 = .ok (.iload 6, 2) := by decide +kernel
theorem dX6_way_196 : decode cX6_way 196 = .ok (.iload_n 3, 1) := by decide +kernel
theorem dX6_way_197 : decode cX6_way 197 = .ok (.if_icmp .ge 35, 3) := by decide +kernel
theorem dX6_way_200 : decode cX6_way 200 = .ok (.aload_n 0, 1) := by decide +kernel
theorem dX6_way_201 : decode cX6_way 201 = .ok (.getfield 37, 3) := by decide +kernel
theorem dX6_way_204 : decode cX6_way 204 = .ok (.iload 6, 2) := by decide +kernel
theorem dX6_way_206 : decode cX6_way 206 = .ok (.iaload, 1) := by decide +kernel
theorem dX6_way_207 : decode cX6_way 207 = .ok (.iload 4, 2) := by decide +kernel
theorem dX6_way_209 : decode cX6_way 209 = .ok (.if_icmp .ne 13, 3) := by decide +kernel
theorem dX6_way_212 : decode cX6_way 212 = .ok (.aload_n 0, 1) := by decide +kernel
theorem dX6_way_213 : decode cX6_way 213 = .ok (.getfield 58, 3) := by decide +kernel
theorem dX6_way_216 : decode cX6_way 216 = .ok (.iload 6, 2) := by decide +kernel
theorem dX6_way_218 : decode cX6_way 218 = .ok (.iaload, 1) := by decide +kernel
theorem dX6_way_219 : decode cX6_way 219 = .ok (.goto 5, 3) := by decide +kernel
theorem dX6_way_222 : decode cX6_way 222 = .ok (.iload 5, 2) := by decide +kernel
theorem dX6_way_224 : decode cX6_way 224 = .ok (.istore 5, 2) := by decide +kernel
theorem dX6_way_226 : decode cX6_way 226 = .ok (.iinc 6 1, 3) := by decide +kernel
theorem dX6_way_229 : decode cX6_way 229 = .ok (.goto (-35), 3) := by decide +kernel
theorem dX6_way_232 : decode cX6_way 232 = .ok (.iload 5, 2) := by decide +kernel
theorem dX6_way_234 : decode cX6_way 234 = .ok (.ireturn, 1) := by decide +kernel
theorem dX6_nodeAt_0 : decode cX6_nodeAt 0 = .ok (.aload_n 0, 1) := by decide +kernel
theorem dX6_nodeAt_1 : decode cX6_nodeAt 1 = .ok (.getfield 13, 3) := by decide +kernel
theorem dX6_nodeAt_4 : decode cX6_nodeAt 4 = .ok (.bipush 40, 2) := by decide +kernel
theorem dX6_nodeAt_6 : decode cX6_nodeAt 6 = .ok (.iload_n 1, 1) := by decide +kernel
theorem dX6_nodeAt_7 : decode cX6_nodeAt 7 = .ok (.imul, 1) := by decide +kernel
theorem dX6_nodeAt_8 : decode cX6_nodeAt 8 = .ok (.iload_n 2, 1) := by decide +kernel
theorem dX6_nodeAt_9 : decode cX6_nodeAt 9 = .ok (.iadd, 1) := by decide +kernel
theorem dX6_nodeAt_10 : decode cX6_nodeAt 10 = .ok (.iaload, 1) := by decide +kernel
theorem dX6_nodeAt_11 : decode cX6_nodeAt 11 = .ok (.ireturn, 1) := by decide +kernel
theorem dX6_size_0 : decode cX6_size 0 = .ok (.aload_n 0, 1) := by decide +kernel
theorem dX6_size_1 : decode cX6_size 1 = .ok (.iload_n 1, 1) := by decide +kernel
theorem dX6_size_2 : decode cX6_size 2 = .ok (.invokevirtual 204, 3) := by decide +kernel
theorem dX6_size_5 : decode cX6_size 5 = .ok (.ifCond .eq 12, 3) := by decide +kernel
theorem dX6_size_8 : decode cX6_size 8 = .ok (.aload_n 0, 1) := by decide +kernel
theorem dX6_size_9 : decode cX6_size 9 = .ok (.getfield 7, 3) := by decide +kernel
theorem dX6_size_12 : decode cX6_size 12 = .ok (.iload_n 1, 1) := by decide +kernel
theorem dX6_size_13 : decode cX6_size 13 = .ok (.iaload, 1) := by decide +kernel
theorem dX6_size_14 : decode cX6_size 14 = .ok (.goto 9, 3) := by decide +kernel
theorem dX6_size_17 : decode cX6_size 17 = .ok (.aload_n 0, 1) := by decide +kernel
theorem dX6_size_18 : decode cX6_size 18 = .ok (.bipush (-2), 2) := by decide +kernel
theorem dX6_size_20 : decode cX6_size 20 = .ok (.invokevirtual 138, 3) := by decide +kernel
theorem dX6_size_23 : decode cX6_size 23 = .ok (.ireturn, 1) := by decide +kernel
theorem dX6_head_0 : decode cX6_head 0 = .ok (.aload_n 0, 1) := by decide +kernel
theorem dX6_head_1 : decode cX6_head 1 = .ok (.iload_n 1, 1) := by decide +kernel
theorem dX6_head_2 : decode cX6_head 2 = .ok (.invokevirtual 204, 3) := by decide +kernel
theorem dX6_head_5 : decode cX6_head 5 = .ok (.ifCond .eq 15, 3) := by decide +kernel
theorem dX6_head_8 : decode cX6_head 8 = .ok (.aload_n 0, 1) := by decide +kernel
theorem dX6_head_9 : decode cX6_head 9 = .ok (.iload_n 1, 1) := by decide +kernel
theorem dX6_head_10 : decode cX6_head 10 = .ok (.iconst 0, 1) := by decide +kernel
theorem dX6_head_11 : decode cX6_head 11 = .ok (.invokevirtual 216, 3) := by decide +kernel
theorem dX6_head_14 : decode cX6_head 14 = .ok (.invokestatic 102, 3) := by decide +kernel
theorem dX6_head_17 : decode cX6_head 17 = .ok (.goto 9, 3) := by decide +kernel
theorem dX6_head_20 : decode cX6_head 20 = .ok (.aload_n 0, 1) := by decide +kernel
theorem dX6_head_21 : decode cX6_head 21 = .ok (.bipush (-2), 2) := by decide +kernel
theorem dX6_head_23 : decode cX6_head 23 = .ok (.invokevirtual 138, 3) := by decide +kernel
theorem dX6_head_26 : decode cX6_head 26 = .ok (.ireturn, 1) := by decide +kernel
theorem dX6_codeOf_0 : decode cX6_codeOf 0 = .ok (.lconst 1, 1) := by decide +kernel
theorem dX6_codeOf_1 : decode cX6_codeOf 1 = .ok (.lstore_n 2, 1) := by decide +kernel
theorem dX6_codeOf_2 : decode cX6_codeOf 2 = .ok (.iconst 0, 1) := by decide +kernel
theorem dX6_codeOf_3 : decode cX6_codeOf 3 = .ok (.istore 4, 2) := by decide +kernel
theorem dX6_codeOf_5 : decode cX6_codeOf 5 = .ok (.iload 4, 2) := by decide +kernel
theorem dX6_codeOf_7 : decode cX6_codeOf 7 = .ok (.aload_n 0, 1) := by decide +kernel
theorem dX6_codeOf_8 : decode cX6_codeOf 8 = .ok (.getfield 7, 3) := by decide +kernel
theorem dX6_codeOf_11 : decode cX6_codeOf 11 = .ok (.iload_n 1, 1) := by decide +kernel
theorem dX6_codeOf_12 : decode cX6_codeOf 12 = .ok (.iaload, 1) := by decide +kernel
theorem dX6_codeOf_13 : decode cX6_codeOf 13 = .ok (.if_icmp .ge 68, 3) := by decide +kernel
theorem dX6_codeOf_16 : decode cX6_codeOf 16 = .ok (.aload_n 0, 1) := by decide +kernel
theorem dX6_codeOf_17 : decode cX6_codeOf 17 = .ok (.iload_n 1, 1) := by decide +kernel
theorem dX6_codeOf_18 : decode cX6_codeOf 18 = .ok (.iload 4, 2) := by decide +kernel
theorem dX6_codeOf_20 : decode cX6_codeOf 20 = .ok (.invokevirtual 216, 3) := by decide +kernel
theorem dX6_codeOf_23 : decode cX6_codeOf 23 = .ok (.istore 5, 2) := by decide +kernel
theorem dX6_codeOf_25 : decode cX6_codeOf 25 = .ok (.ldc2_w 219, 3) := by decide +kernel
theorem dX6_codeOf_28 : decode cX6_codeOf 28 = .ok (.lload_n 2, 1) := by decide +kernel
theorem dX6_codeOf_29 : decode cX6_codeOf 29 = .ok (.lmul, 1) := by decide +kernel
theorem dX6_codeOf_30 : decode cX6_codeOf 30 = .ok (.iload 5, 2) := by decide +kernel
theorem dX6_codeOf_32 : decode cX6_codeOf 32 = .ok (.invokestatic 102, 3) := by decide +kernel
theorem dX6_codeOf_35 : decode cX6_codeOf 35 = .ok (.i2l, 1) := by decide +kernel
theorem dX6_codeOf_36 : decode cX6_codeOf 36 = .ok (.ladd, 1) := by decide +kernel
theorem dX6_codeOf_37 : decode cX6_codeOf 37 = .ok (.lstore_n 2, 1) := by decide +kernel
theorem dX6_codeOf_38 : decode cX6_codeOf 38 = .ok (.iconst 0, 1) := by decide +kernel
theorem dX6_codeOf_39 : decode cX6_codeOf 39 = .ok (.istore 6, 2) := by decide +kernel
theorem dX6_codeOf_41 : decode cX6_codeOf 41 = .ok (.iload 6, 2) := by decide +kernel
theorem dX6_codeOf_43 : decode cX6_codeOf 43 = .ok (.iload 5, 2) := by decide +kernel
theorem dX6_codeOf_45 : decode cX6_codeOf 45 = .ok (.invokestatic 102, 3) := by decide +kernel
theorem dX6_codeOf_48 : decode cX6_codeOf 48 = .ok (.invokestatic 113, 3) := by decide +kernel
theorem dX6_codeOf_51 : decode cX6_codeOf 51 = .ok (.if_icmp .ge 24, 3) := by decide +kernel
theorem dX6_codeOf_54 : decode cX6_codeOf 54 = .ok (.ldc2_w 219, 3) := by decide +kernel
theorem dX6_codeOf_57 : decode cX6_codeOf 57 = .ok (.lload_n 2, 1) := by decide +kernel
theorem dX6_codeOf_58 : decode cX6_codeOf 58 = .ok (.lmul, 1) := by decide +kernel
theorem dX6_codeOf_59 : decode cX6_codeOf 59 = .ok (.iload 5, 2) := by decide +kernel
theorem dX6_codeOf_61 : decode cX6_codeOf 61 = .ok (.iload 6, 2) := by decide +kernel
theorem dX6_codeOf_63 : decode cX6_codeOf 63 = .ok (.invokestatic 106, 3) := by decide +kernel
theorem dX6_codeOf_66 : decode cX6_codeOf 66 = .ok (.i2l, 1) := by decide +kernel
theorem dX6_codeOf_67 : decode cX6_codeOf 67 = .ok (.ladd, 1) := by decide +kernel
theorem dX6_codeOf_68 : decode cX6_codeOf 68 = .ok (.lstore_n 2, 1) := by decide +kernel
theorem dX6_codeOf_69 : decode cX6_codeOf 69 = .ok (.iinc 6 1, 3) := by decide +kernel
theorem dX6_codeOf_72 : decode cX6_codeOf 72 = .ok (.goto (-31), 3) := by decide +kernel
theorem dX6_codeOf_75 : decode cX6_codeOf 75 = .ok (.iinc 4 1, 3) := by decide +kernel
theorem dX6_codeOf_78 : decode cX6_codeOf 78 = .ok (.goto (-73), 3) := by decide +kernel
theorem dX6_codeOf_81 : decode cX6_codeOf 81 = .ok (.lload_n 2, 1) := by decide +kernel
theorem dX6_codeOf_82 : decode cX6_codeOf 82 = .ok (.lreturn, 1) := by decide +kernel
theorem dX6_code_0 : decode cX6_code 0 = .ok (.aload_n 0, 1) := by decide +kernel
theorem dX6_code_1 : decode cX6_code 1 = .ok (.iload_n 1, 1) := by decide +kernel
theorem dX6_code_2 : decode cX6_code 2 = .ok (.invokevirtual 204, 3) := by decide +kernel
theorem dX6_code_5 : decode cX6_code 5 = .ok (.ifCond .eq 11, 3) := by decide +kernel
theorem dX6_code_8 : decode cX6_code 8 = .ok (.aload_n 0, 1) := by decide +kernel
theorem dX6_code_9 : decode cX6_code 9 = .ok (.iload_n 1, 1) := by decide +kernel
theorem dX6_code_10 : decode cX6_code 10 = .ok (.invokevirtual 221, 3) := by decide +kernel
theorem dX6_code_13 : decode cX6_code 13 = .ok (.goto 10, 3) := by decide +kernel
theorem dX6_code_16 : decode cX6_code 16 = .ok (.aload_n 0, 1) := by decide +kernel
theorem dX6_code_17 : decode cX6_code 17 = .ok (.bipush (-2), 2) := by decide +kernel
theorem dX6_code_19 : decode cX6_code 19 = .ok (.invokevirtual 138, 3) := by decide +kernel
theorem dX6_code_22 : decode cX6_code 22 = .ok (.i2l, 1) := by decide +kernel
theorem dX6_code_23 : decode cX6_code 23 = .ok (.lreturn, 1) := by decide +kernel
theorem dX6_climbs_0 : decode cX6_climbs 0 = .ok (.aload_n 0, 1) := by decide +kernel
theorem dX6_climbs_1 : decode cX6_climbs 1 = .ok (.getfield 7, 3) := by decide +kernel
theorem dX6_climbs_4 : decode cX6_climbs 4 = .ok (.iload_n 1, 1) := by decide +kernel
theorem dX6_climbs_5 : decode cX6_climbs 5 = .ok (.iaload, 1) := by decide +kernel
theorem dX6_climbs_6 : decode cX6_climbs 6 = .ok (.istore_n 3, 1) := by decide +kernel
theorem dX6_climbs_7 : decode cX6_climbs 7 = .ok (.iconst 0, 1) := by decide +kernel
theorem dX6_climbs_8 : decode cX6_climbs 8 = .ok (.istore 4, 2) := by decide +kernel
theorem dX6_climbs_10 : decode cX6_climbs 10 = .ok (.iload 4, 2) := by decide +kernel
theorem dX6_climbs_12 : decode cX6_climbs 12 = .ok (.iload_n 3, 1) := by decide +kernel
theorem dX6_climbs_13 : decode cX6_climbs 13 = .ok (.if_icmp .ge 19, 3) := by decide +kernel
theorem dX6_climbs_16 : decode cX6_climbs 16 = .ok (.aload_n 0, 1) := by decide +kernel
theorem dX6_climbs_17 : decode cX6_climbs 17 = .ok (.getfield 82, 3) := by decide +kernel
theorem dX6_climbs_20 : decode cX6_climbs 20 = .ok (.iload 4, 2) := by decide +kernel
theorem dX6_climbs_22 : decode cX6_climbs 22 = .ok (.ldc2_w 225, 3) := by decide +kernel
theorem dX6_climbs_25 : decode cX6_climbs 25 = .ok (.lastore, 1) := by decide +kernel
theorem dX6_climbs_26 : decode cX6_climbs 26 = .ok (.iinc 4 1, 3) := by decide +kernel
theorem dX6_climbs_29 : decode cX6_climbs 29 = .ok (.goto (-19), 3) := by decide +kernel
theorem dX6_climbs_32 : decode cX6_climbs 32 = .ok (.iconst 0, 1) := by decide +kernel
theorem dX6_climbs_33 : decode cX6_climbs 33 = .ok (.istore 4, 2) := by decide +kernel
theorem dX6_climbs_35 : decode cX6_climbs 35 = .ok (.iload 4, 2) := by decide +kernel
theorem dX6_climbs_37 : decode cX6_climbs 37 = .ok (.iload_n 3, 1) := by decide +kernel
theorem dX6_climbs_38 : decode cX6_climbs 38 = .ok (.if_icmp .ge 170, 3) := by decide +kernel
theorem dX6_climbs_41 : decode cX6_climbs 41 = .ok (.iconst 0, 1) := by decide +kernel
theorem dX6_climbs_42 : decode cX6_climbs 42 = .ok (.istore 5, 2) := by decide +kernel
theorem dX6_climbs_44 : decode cX6_climbs 44 = .ok (.iload 5, 2) := by decide +kernel
theorem dX6_climbs_46 : decode cX6_climbs 46 = .ok (.iload_n 3, 1) := by decide +kernel
theorem dX6_climbs_47 : decode cX6_climbs 47 = .ok (.if_icmp .ge 155, 3) := by decide +kernel
theorem dX6_climbs_50 : decode cX6_climbs 50 = .ok (.aload_n 0, 1) := by decide +kernel
theorem dX6_climbs_51 : decode cX6_climbs 51 = .ok (.iload_n 1, 1) := by decide +kernel
theorem dX6_climbs_52 : decode cX6_climbs 52 = .ok (.iload 5, 2) := by decide +kernel
theorem dX6_climbs_54 : decode cX6_climbs 54 = .ok (.invokevirtual 216, 3) := by decide +kernel
theorem dX6_climbs_57 : decode cX6_climbs 57 = .ok (.istore 6, 2) := by decide +kernel
theorem dX6_climbs_59 : decode cX6_climbs 59 = .ok (.iconst 1, 1) := by decide +kernel
theorem dX6_climbs_60 : decode cX6_climbs 60 = .ok (.istore 7, 2) := by decide +kernel
theorem dX6_climbs_62 : decode cX6_climbs 62 = .ok (.iload_n 2, 1) := by decide +kernel
theorem dX6_climbs_63 : decode cX6_climbs 63 = .ok (.ifCond .eq 7, 3) := by decide +kernel
theorem dX6_climbs_66 : decode cX6_climbs 66 = .ok (.lconst 1, 1) := by decide +kernel
theorem dX6_climbs_67 : decode cX6_climbs 67 = .ok (.goto 4, 3) := by decide +kernel
theorem dX6_climbs_70 : decode cX6_climbs 70 = .ok (.lconst 0, 1) := by decide +kernel
theorem dX6_climbs_71 : decode cX6_climbs 71 = .ok (.lstore 8, 2) := by decide +kernel
theorem dX6_climbs_73 : decode cX6_climbs 73 = .ok (.iconst 0, 1) := by decide +kernel
theorem dX6_climbs_74 : decode cX6_climbs 74 = .ok (.istore 10, 2) := by decide +kernel
theorem dX6_climbs_76 : decode cX6_climbs 76 = .ok (.iload 10, 2) := by decide +kernel
theorem dX6_climbs_78 : decode cX6_climbs 78 = .ok (.iload 6, 2) := by decide +kernel
theorem dX6_climbs_80 : decode cX6_climbs 80 = .ok (.invokestatic 102, 3) := by decide +kernel
theorem dX6_climbs_83 : decode cX6_climbs 83 = .ok (.invokestatic 113, 3) := by decide +kernel
theorem dX6_climbs_86 : decode cX6_climbs 86 = .ok (.if_icmp .ge 75, 3) := by decide +kernel
theorem dX6_climbs_89 : decode cX6_climbs 89 = .ok (.aload_n 0, 1) := by decide +kernel
theorem dX6_climbs_90 : decode cX6_climbs 90 = .ok (.getfield 82, 3) := by decide +kernel
theorem dX6_climbs_93 : decode cX6_climbs 93 = .ok (.iload 6, 2) := by decide +kernel
theorem dX6_climbs_95 : decode cX6_climbs 95 = .ok (.iload 10, 2) := by decide +kernel
theorem dX6_climbs_97 : decode cX6_climbs 97 = .ok (.invokestatic 106, 3) := by decide +kernel
theorem dX6_climbs_100 : decode cX6_climbs 100 = .ok (.laload, 1) := by decide +kernel
theorem dX6_climbs_101 : decode cX6_climbs 101 = .ok (.lstore 11, 2) := by decide +kernel
theorem dX6_climbs_103 : decode cX6_climbs 103 = .ok (.iload 7, 2) := by decide +kernel
theorem dX6_climbs_105 : decode cX6_climbs 105 = .ok (.ifCond .eq 14, 3) := by decide +kernel
theorem dX6_climbs_108 : decode cX6_climbs 108 = .ok (.lload 11, 2) := by decide +kernel
theorem dX6_climbs_110 : decode cX6_climbs 110 = .ok (.lconst 0, 1) := by decide +kernel
theorem dX6_climbs_111 : decode cX6_climbs 111 = .ok (.lcmp, 1) := by decide +kernel
theorem dX6_climbs_112 : decode cX6_climbs 112 = .ok (.ifCond .lt 7, 3) := by decide +kernel
theorem dX6_climbs_115 : decode cX6_climbs 115 = .ok (.iconst 1, 1) := by decide +kernel
theorem dX6_climbs_116 : decode cX6_climbs 116 = .ok (.goto 4, 3) := by decide +kernel
theorem dX6_climbs_119 : decode cX6_climbs 119 = .ok (.iconst 0, 1) := by decide +kernel
theorem dX6_climbs_120 : decode cX6_climbs 120 = .ok (.istore 7, 2) := by decide +kernel
theorem dX6_climbs_122 : decode cX6_climbs 122 = .ok (.iload_n 2, 1) := by decide +kernel
theorem dX6_climbs_123 : decode cX6_climbs 123 = .ok (.ifCond .eq 11, 3) := by decide +kernel
theorem dX6_climbs_126 : decode cX6_climbs 126 = .ok (.lload 8, 2) := by decide +kernel
theorem dX6_climbs_128 : decode cX6_climbs 128 = .ok (.lload 11, 2) := by decide +kernel
theorem dX6_climbs_130 : decode cX6_climbs 130 = .ok (.ladd, 1) := by decide +kernel
theorem dX6_climbs_131 : decode cX6_climbs 131 = .ok (.goto 22, 3) := by decide +kernel
theorem dX6_climbs_134 : decode cX6_climbs 134 = .ok (.lload 11, 2) := by decide +kernel
theorem dX6_climbs_136 : decode cX6_climbs 136 = .ok (.lconst 1, 1) := by decide +kernel
theorem dX6_climbs_137 : decode cX6_climbs 137 = .ok (.ladd, 1) := by decide +kernel
theorem dX6_climbs_138 : decode cX6_climbs 138 = .ok (.lload 8, 2) := by decide +kernel
theorem dX6_climbs_140 : decode cX6_climbs 140 = .ok (.lcmp, 1) := by decide +kernel
theorem dX6_climbs_141 : decode cX6_climbs 141 = .ok (.ifCond .le 10, 3) := by decide +kernel
theorem dX6_climbs_144 : decode cX6_climbs 144 = .ok (.lload 11, 2) := by decide +kernel
theorem dX6_climbs_146 : decode cX6_climbs 146 = .ok (.lconst 1, 1) := by decide +kernel
theorem dX6_climbs_147 : decode cX6_climbs 147 = .ok (.ladd, 1) := by decide +kernel
theorem dX6_climbs_148 : decode cX6_climbs 148 = .ok (.goto 5, 3) := by decide +kernel
theorem dX6_climbs_151 : decode cX6_climbs 151 = .ok (.lload 8, 2) := by decide +kernel
theorem dX6_climbs_153 : decode cX6_climbs 153 = .ok (.lstore 8, 2) := by decide +kernel
theorem dX6_climbs_155 : decode cX6_climbs 155 = .ok (.iinc 10 1, 3) := by decide +kernel
theorem dX6_climbs_158 : decode cX6_climbs 158 = .ok (.goto (-82), 3) := by decide +kernel
theorem dX6_climbs_161 : decode cX6_climbs 161 = .ok (.aload_n 0, 1) := by decide +kernel
theorem dX6_climbs_162 : decode cX6_climbs 162 = .ok (.getfield 82, 3) := by decide +kernel
theorem dX6_climbs_165 : decode cX6_climbs 165 = .ok (.iload 5, 2) := by decide +kernel
theorem dX6_climbs_167 : decode cX6_climbs 167 = .ok (.iload 7, 2) := by decide +kernel
theorem dX6_climbs_169 : decode cX6_climbs 169 = .ok (.ifCond .ne 9, 3) := by decide +kernel
theorem dX6_climbs_172 : decode cX6_climbs 172 = .ok (.ldc2_w 225, 3) := by decide +kernel
theorem dX6_climbs_175 : decode cX6_climbs 175 = .ok (.goto 20, 3) := by decide +kernel
theorem dX6_climbs_178 : decode cX6_climbs 178 = .ok (.lload 8, 2) := by decide +kernel
theorem dX6_climbs_180 : decode cX6_climbs 180 = .ok (.ldc2_w 227, 3) := by decide +kernel
theorem dX6_climbs_183 : decode cX6_climbs 183 = .ok (.lcmp, 1) := by decide +kernel
theorem dX6_climbs_184 : decode cX6_climbs 184 = .ok (.ifCond .le 9, 3) := by decide +kernel
theorem dX6_climbs_187 : decode cX6_climbs 187 = .ok (.ldc2_w 227, 3) := by decide +kernel
theorem dX6_climbs_190 : decode cX6_climbs 190 = .ok (.goto 5, 3) := by decide +kernel
theorem dX6_climbs_193 : decode cX6_climbs 193 = .ok (.lload 8, 2) := by decide +kernel
theorem dX6_climbs_195 : decode cX6_climbs 195 = .ok (.lastore, 1) := by decide +kernel
theorem dX6_climbs_196 : decode cX6_climbs 196 = .ok (.iinc 5 1, 3) := by decide +kernel
theorem dX6_climbs_199 : decode cX6_climbs 199 = .ok (.goto (-155), 3) := by decide +kernel
theorem dX6_climbs_202 : decode cX6_climbs 202 = .ok (.iinc 4 1, 3) := by decide +kernel
theorem dX6_climbs_205 : decode cX6_climbs 205 = .ok (.goto (-170), 3) := by decide +kernel
theorem dX6_climbs_208 : decode cX6_climbs 208 = .ok (.aload_n 0, 1) := by decide +kernel
theorem dX6_climbs_209 : decode cX6_climbs 209 = .ok (.getfield 82, 3) := by decide +kernel
theorem dX6_climbs_212 : decode cX6_climbs 212 = .ok (.iconst 0, 1) := by decide +kernel
theorem dX6_climbs_213 : decode cX6_climbs 213 = .ok (.laload, 1) := by decide +kernel
theorem dX6_climbs_214 : decode cX6_climbs 214 = .ok (.lreturn, 1) := by decide +kernel
theorem dX6_deep_0 : decode cX6_deep 0 = .ok (.aload_n 0, 1) := by decide +kernel
theorem dX6_deep_1 : decode cX6_deep 1 = .ok (.iload_n 1, 1) := by decide +kernel
theorem dX6_deep_2 : decode cX6_deep 2 = .ok (.invokevirtual 204, 3) := by decide +kernel
theorem dX6_deep_5 : decode cX6_deep 5 = .ok (.ifCond .eq 13, 3) := by decide +kernel
theorem dX6_deep_8 : decode cX6_deep 8 = .ok (.aload_n 0, 1) := by decide +kernel
theorem dX6_deep_9 : decode cX6_deep 9 = .ok (.iload_n 1, 1) := by decide +kernel
theorem dX6_deep_10 : decode cX6_deep 10 = .ok (.iconst 0, 1) := by decide +kernel
theorem dX6_deep_11 : decode cX6_deep 11 = .ok (.invokevirtual 229, 3) := by decide +kernel
theorem dX6_deep_14 : decode cX6_deep 14 = .ok (.l2i, 1) := by decide +kernel
theorem dX6_deep_15 : decode cX6_deep 15 = .ok (.goto 9, 3) := by decide +kernel
theorem dX6_deep_18 : decode cX6_deep 18 = .ok (.aload_n 0, 1) := by decide +kernel
theorem dX6_deep_19 : decode cX6_deep 19 = .ok (.bipush (-2), 2) := by decide +kernel
theorem dX6_deep_21 : decode cX6_deep 21 = .ok (.invokevirtual 138, 3) := by decide +kernel
theorem dX6_deep_24 : decode cX6_deep 24 = .ok (.ireturn, 1) := by decide +kernel
theorem dX6_heads_0 : decode cX6_heads 0 = .ok (.aload_n 0, 1) := by decide +kernel
theorem dX6_heads_1 : decode cX6_heads 1 = .ok (.iload_n 1, 1) := by decide +kernel
theorem dX6_heads_2 : decode cX6_heads 2 = .ok (.invokevirtual 204, 3) := by decide +kernel
theorem dX6_heads_5 : decode cX6_heads 5 = .ok (.ifCond .eq 13, 3) := by decide +kernel
theorem dX6_heads_8 : decode cX6_heads 8 = .ok (.aload_n 0, 1) := by decide +kernel
theorem dX6_heads_9 : decode cX6_heads 9 = .ok (.iload_n 1, 1) := by decide +kernel
theorem dX6_heads_10 : decode cX6_heads 10 = .ok (.iconst 1, 1) := by decide +kernel
theorem dX6_heads_11 : decode cX6_heads 11 = .ok (.invokevirtual 229, 3) := by decide +kernel
theorem dX6_heads_14 : decode cX6_heads 14 = .ok (.l2i, 1) := by decide +kernel
theorem dX6_heads_15 : decode cX6_heads 15 = .ok (.goto 9, 3) := by decide +kernel
theorem dX6_heads_18 : decode cX6_heads 18 = .ok (.aload_n 0, 1) := by decide +kernel
theorem dX6_heads_19 : decode cX6_heads 19 = .ok (.bipush (-2), 2) := by decide +kernel
theorem dX6_heads_21 : decode cX6_heads 21 = .ok (.invokevirtual 138, 3) := by decide +kernel
theorem dX6_heads_24 : decode cX6_heads 24 = .ok (.ireturn, 1) := by decide +kernel
theorem dX6_many_0 : decode cX6_many 0 = .ok (.aload_n 0, 1) := by decide +kernel
theorem dX6_many_1 : decode cX6_many 1 = .ok (.iload_n 1, 1) := by decide +kernel
theorem dX6_many_2 : decode cX6_many 2 = .ok (.invokevirtual 204, 3) := by decide +kernel
theorem dX6_many_5 : decode cX6_many 5 = .ok (.ifCond .eq 13, 3) := by decide +kernel
theorem dX6_many_8 : decode cX6_many 8 = .ok (.iload_n 2, 1) := by decide +kernel
theorem dX6_many_9 : decode cX6_many 9 = .ok (.iconst 0, 1) := by decide +kernel
theorem dX6_many_10 : decode cX6_many 10 = .ok (.bipush 6, 2) := by decide +kernel
theorem dX6_many_12 : decode cX6_many 12 = .ok (.invokestatic 86, 3) := by decide +kernel
theorem dX6_many_15 : decode cX6_many 15 = .ok (.ifCond .ne 10, 3) := by decide +kernel
theorem dX6_many_18 : decode cX6_many 18 = .ok (.aload_n 0, 1) := by decide +kernel
theorem dX6_many_19 : decode cX6_many 19 = .ok (.bipush (-2), 2) := by decide +kernel
theorem dX6_many_21 : decode cX6_many 21 = .ok (.invokevirtual 138, 3) := by decide +kernel
theorem dX6_many_24 : decode cX6_many 24 = .ok (.ireturn, 1) := by decide +kernel
theorem dX6_many_25 : decode cX6_many 25 = .ok (.iconst 0, 1) := by decide +kernel
theorem dX6_many_26 : decode cX6_many 26 = .ok (.istore_n 3, 1) := by decide +kernel
theorem dX6_many_27 : decode cX6_many 27 = .ok (.iconst 0, 1) := by decide +kernel
theorem dX6_many_28 : decode cX6_many 28 = .ok (.istore 4, 2) := by decide +kernel
theorem dX6_many_30 : decode cX6_many 30 = .ok (.iload 4, 2) := by decide +kernel
theorem dX6_many_32 : decode cX6_many 32 = .ok (.aload_n 0, 1) := by decide +kernel
theorem dX6_many_33 : decode cX6_many 33 = .ok (.getfield 7, 3) := by decide +kernel
theorem dX6_many_36 : decode cX6_many 36 = .ok (.iload_n 1, 1) := by decide +kernel
theorem dX6_many_37 : decode cX6_many 37 = .ok (.iaload, 1) := by decide +kernel
theorem dX6_many_38 : decode cX6_many 38 = .ok (.if_icmp .ge 31, 3) := by decide +kernel
theorem dX6_many_41 : decode cX6_many 41 = .ok (.iload_n 3, 1) := by decide +kernel
theorem dX6_many_42 : decode cX6_many 42 = .ok (.aload_n 0, 1) := by decide +kernel
theorem dX6_many_43 : decode cX6_many 43 = .ok (.iload_n 1, 1) := by decide +kernel
theorem dX6_many_44 : decode cX6_many 44 = .ok (.iload 4, 2) := by decide +kernel
theorem dX6_many_46 : decode cX6_many 46 = .ok (.invokevirtual 216, 3) := by decide +kernel
theorem dX6_many_49 : decode cX6_many 49 = .ok (.invokestatic 102, 3) := by decide +kernel
theorem dX6_many_52 : decode cX6_many 52 = .ok (.iload_n 2, 1) := by decide +kernel
theorem dX6_many_53 : decode cX6_many 53 = .ok (.if_icmp .ne 7, 3) := by decide +kernel
theorem dX6_many_56 : decode cX6_many 56 = .ok (.iconst 1, 1) := by decide +kernel
theorem dX6_many_57 : decode cX6_many 57 = .ok (.goto 4, 3) := by decide +kernel
theorem dX6_many_60 : decode cX6_many 60 = .ok (.iconst 0, 1) := by decide +kernel
theorem dX6_many_61 : decode cX6_many 61 = .ok (.iadd, 1) := by decide +kernel
theorem dX6_many_62 : decode cX6_many 62 = .ok (.istore_n 3, 1) := by decide +kernel
theorem dX6_many_63 : decode cX6_many 63 = .ok (.iinc 4 1, 3) := by decide +kernel
theorem dX6_many_66 : decode cX6_many 66 = .ok (.goto (-36), 3) := by decide +kernel
theorem dX6_many_69 : decode cX6_many 69 = .ok (.iload_n 3, 1) := by decide +kernel
theorem dX6_many_70 : decode cX6_many 70 = .ok (.ireturn, 1) := by decide +kernel
theorem dX6_looping_0 : decode cX6_looping 0 = .ok (.aload_n 0, 1) := by decide +kernel
theorem dX6_looping_1 : decode cX6_looping 1 = .ok (.iload_n 1, 1) := by decide +kernel
theorem dX6_looping_2 : decode cX6_looping 2 = .ok (.invokevirtual 204, 3) := by decide +kernel
theorem dX6_looping_5 : decode cX6_looping 5 = .ok (.ifCond .ne 10, 3) := by decide +kernel
theorem dX6_looping_8 : decode cX6_looping 8 = .ok (.aload_n 0, 1) := by decide +kernel
theorem dX6_looping_9 : decode cX6_looping 9 = .ok (.bipush (-2), 2) := by decide +kernel
theorem dX6_looping_11 : decode cX6_looping 11 = .ok (.invokevirtual 138, 3) := by decide +kernel
theorem dX6_looping_14 : decode cX6_looping 14 = .ok (.ireturn, 1) := by decide +kernel
theorem dX6_looping_15 : decode cX6_looping 15 = .ok (.iconst 0, 1) := by decide +kernel
theorem dX6_looping_16 : decode cX6_looping 16 = .ok (.istore_n 2, 1) := by decide +kernel
theorem dX6_looping_17 : decode cX6_looping 17 = .ok (.iconst 0, 1) := by decide +kernel
theorem dX6_looping_18 : decode cX6_looping 18 = .ok (.istore_n 3, 1) := by decide +kernel
theorem dX6_looping_19 : decode cX6_looping 19 = .ok (.iload_n 3, 1) := by decide +kernel
theorem dX6_looping_20 : decode cX6_looping 20 = .ok (.aload_n 0, 1) := by decide +kernel
theorem dX6_looping_21 : decode cX6_looping 21 = .ok (.getfield 7, 3) := by decide +kernel
theorem dX6_looping_24 : decode cX6_looping 24 = .ok (.iload_n 1, 1) := by decide +kernel
theorem dX6_looping_25 : decode cX6_looping 25 = .ok (.iaload, 1) := by decide +kernel
theorem dX6_looping_26 : decode cX6_looping 26 = .ok (.if_icmp .ge 146, 3) := by decide +kernel
theorem dX6_looping_29 : decode cX6_looping 29 = .ok (.lconst 0, 1) := by decide +kernel
theorem dX6_looping_30 : decode cX6_looping 30 = .ok (.lstore 4, 2) := by decide +kernel
theorem dX6_looping_32 : decode cX6_looping 32 = .ok (.iconst 0, 1) := by decide +kernel
theorem dX6_looping_33 : decode cX6_looping 33 = .ok (.istore 6, 2) := by decide +kernel
theorem dX6_looping_35 : decode cX6_looping 35 = .ok (.iload 6, 2) := by decide +kernel
theorem dX6_looping_37 : decode cX6_looping 37 = .ok (.aload_n 0, 1) := by decide +kernel
theorem dX6_looping_38 : decode cX6_looping 38 = .ok (.getfield 7, 3) := by decide +kernel
theorem dX6_looping_41 : decode cX6_looping 41 = .ok (.iload_n 1, 1) := by decide +kernel
theorem dX6_looping_42 : decode cX6_looping 42 = .ok (.iaload, 1) := by decide +kernel
theorem dX6_looping_43 : decode cX6_looping 43 = .ok (.if_icmp .gt 104, 3) := by decide +kernel
theorem dX6_looping_46 : decode cX6_looping 46 = .ok (.iconst 0, 1) := by decide +kernel
theorem dX6_looping_47 : decode cX6_looping 47 = .ok (.istore 7, 2) := by decide +kernel
theorem dX6_looping_49 : decode cX6_looping 49 = .ok (.iload 7, 2) := by decide +kernel
theorem dX6_looping_51 : decode cX6_looping 51 = .ok (.aload_n 0, 1) := by decide +kernel
theorem dX6_looping_52 : decode cX6_looping 52 = .ok (.getfield 7, 3) := by decide +kernel
theorem dX6_looping_55 : decode cX6_looping 55 = .ok (.iload_n 1, 1) := by decide +kernel
theorem dX6_looping_56 : decode cX6_looping 56 = .ok (.iaload, 1) := by decide +kernel
theorem dX6_looping_57 : decode cX6_looping 57 = .ok (.if_icmp .ge 84, 3) := by decide +kernel
theorem dX6_looping_60 : decode cX6_looping 60 = .ok (.aload_n 0, 1) := by decide +kernel
theorem dX6_looping_61 : decode cX6_looping 61 = .ok (.iload_n 1, 1) := by decide +kernel
theorem dX6_looping_62 : decode cX6_looping 62 = .ok (.iload 7, 2) := by decide +kernel
theorem dX6_looping_64 : decode cX6_looping 64 = .ok (.invokevirtual 216, 3) := by decide +kernel
theorem dX6_looping_67 : decode cX6_looping 67 = .ok (.istore 8, 2) := by decide +kernel
theorem dX6_looping_69 : decode cX6_looping 69 = .ok (.iload 7, 2) := by decide +kernel
theorem dX6_looping_71 : decode cX6_looping 71 = .ok (.iload_n 3, 1) := by decide +kernel
theorem dX6_looping_72 : decode cX6_looping 72 = .ok (.if_icmp .eq 15, 3) := by decide +kernel
theorem dX6_looping_75 : decode cX6_looping 75 = .ok (.lload 4, 2) := by decide +kernel
theorem dX6_looping_77 : decode cX6_looping 77 = .ok (.iload 7, 2) := by decide +kernel
theorem dX6_looping_79 : decode cX6_looping 79 = .ok (.lshr, 1) := by decide +kernel
theorem dX6_looping_80 : decode cX6_looping 80 = .ok (.lconst 1, 1) := by decide +kernel
theorem dX6_looping_81 : decode cX6_looping 81 = .ok (.land, 1) := by decide +kernel
theorem dX6_looping_82 : decode cX6_looping 82 = .ok (.lconst 1, 1) := by decide +kernel
theorem dX6_looping_83 : decode cX6_looping 83 = .ok (.lcmp, 1) := by decide +kernel
theorem dX6_looping_84 : decode cX6_looping 84 = .ok (.ifCond .ne 7, 3) := by decide +kernel
theorem dX6_looping_87 : decode cX6_looping 87 = .ok (.iconst 1, 1) := by decide +kernel
theorem dX6_looping_88 : decode cX6_looping 88 = .ok (.goto 4, 3) := by decide +kernel
theorem dX6_looping_91 : decode cX6_looping 91 = .ok (.iconst 0, 1) := by decide +kernel
theorem dX6_looping_92 : decode cX6_looping 92 = .ok (.istore 9, 2) := by decide +kernel
theorem dX6_looping_94 : decode cX6_looping 94 = .ok (.iconst 0, 1) := by decide +kernel
theorem dX6_looping_95 : decode cX6_looping 95 = .ok (.istore 10, 2) := by decide +kernel
theorem dX6_looping_97 : decode cX6_looping 97 = .ok (.iload 10, 2) := by decide +kernel
theorem dX6_looping_99 : decode cX6_looping 99 = .ok (.iload 8, 2) := by decide +kernel
theorem dX6_looping_101 : decode cX6_looping 101 = .ok (.invokestatic 102, 3) := by decide +kernel
theorem dX6_looping_104 : decode cX6_looping 104 = .ok (.invokestatic 113, 3) := by decide +kernel
theorem dX6_looping_107 : decode cX6_looping 107 = .ok (.if_icmp .ge 28, 3) := by decide +kernel
theorem dX6_looping_110 : decode cX6_looping 110 = .ok (.iload 9, 2) := by decide +kernel
theorem dX6_looping_112 : decode cX6_looping 112 = .ok (.ifCond .eq 23, 3) := by decide +kernel
theorem dX6_looping_115 : decode cX6_looping 115 = .ok (.lload 4, 2) := by decide +kernel
theorem dX6_looping_117 : decode cX6_looping 117 = .ok (.lconst 1, 1) := by decide +kernel
theorem dX6_looping_118 : decode cX6_looping 118 = .ok (.iload 8, 2) := by decide +kernel
theorem dX6_looping_120 : decode cX6_looping 120 = .ok (.iload 10, 2) := by decide +kernel
theorem dX6_looping_122 : decode cX6_looping 122 = .ok (.invokestatic 106, 3) := by decide +kernel
theorem dX6_looping_125 : decode cX6_looping 125 = .ok (.lshl, 1) := by decide +kernel
theorem dX6_looping_126 : decode cX6_looping 126 = .ok (.lor, 1) := by decide +kernel
theorem dX6_looping_127 : decode cX6_looping 127 = .ok (.lstore 4, 2) := by decide +kernel
theorem dX6_looping_129 : decode cX6_looping 129 = .ok (.iinc 10 1, 3) := by decide +kernel
theorem dX6_looping_132 : decode cX6_looping 132 = .ok (.goto (-35), 3) := by decide +kernel
theorem dX6_looping_135 : decode cX6_looping 135 = .ok (.iinc 7 1, 3) := by decide +kernel
theorem dX6_looping_138 : decode cX6_looping 138 = .ok (.goto (-89), 3) := by decide +kernel
theorem dX6_looping_141 : decode cX6_looping 141 = .ok (.iinc 6 1, 3) := by decide +kernel
theorem dX6_looping_144 : decode cX6_looping 144 = .ok (.goto (-109), 3) := by decide +kernel
theorem dX6_looping_147 : decode cX6_looping 147 = .ok (.iload_n 2, 1) := by decide +kernel
theorem dX6_looping_148 : decode cX6_looping 148 = .ok (.lload 4, 2) := by decide +kernel
theorem dX6_looping_150 : decode cX6_looping 150 = .ok (.iload_n 3, 1) := by decide +kernel
theorem dX6_looping_151 : decode cX6_looping 151 = .ok (.lshr, 1) := by decide +kernel
theorem dX6_looping_152 : decode cX6_looping 152 = .ok (.lconst 1, 1) := by decide +kernel
theorem dX6_looping_153 : decode cX6_looping 153 = .ok (.land, 1) := by decide +kernel
theorem dX6_looping_154 : decode cX6_looping 154 = .ok (.lconst 1, 1) := by decide +kernel
theorem dX6_looping_155 : decode cX6_looping 155 = .ok (.lcmp, 1) := by decide +kernel
theorem dX6_looping_156 : decode cX6_looping 156 = .ok (.ifCond .ne 7, 3) := by decide +kernel
theorem dX6_looping_159 : decode cX6_looping 159 = .ok (.iconst 1, 1) := by decide +kernel
theorem dX6_looping_160 : decode cX6_looping 160 = .ok (.goto 4, 3) := by decide +kernel
theorem dX6_looping_163 : decode cX6_looping 163 = .ok (.iconst 0, 1) := by decide +kernel
theorem dX6_looping_164 : decode cX6_looping 164 = .ok (.iadd, 1) := by decide +kernel
theorem dX6_looping_165 : decode cX6_looping 165 = .ok (.istore_n 2, 1) := by decide +kernel
theorem dX6_looping_166 : decode cX6_looping 166 = .ok (.iinc 3 1, 3) := by decide +kernel
theorem dX6_looping_169 : decode cX6_looping 169 = .ok (.goto (-150), 3) := by decide +kernel
theorem dX6_looping_172 : decode cX6_looping 172 = .ok (.iload_n 2, 1) := by decide +kernel
theorem dX6_looping_173 : decode cX6_looping 173 = .ok (.ireturn, 1) := by decide +kernel
theorem dX6_leastOf_0 : decode cX6_leastOf 0 = .ok (.iconst 0, 1) := by decide +kernel
theorem dX6_leastOf_1 : decode cX6_leastOf 1 = .ok (.istore_n 2, 1) := by decide +kernel
theorem dX6_leastOf_2 : decode cX6_leastOf 2 = .ok (.iload_n 2, 1) := by decide +kernel
theorem dX6_leastOf_3 : decode cX6_leastOf 3 = .ok (.aload_n 0, 1) := by decide +kernel
theorem dX6_leastOf_4 : decode cX6_leastOf 4 = .ok (.getfield 7, 3) := by decide +kernel
theorem dX6_leastOf_7 : decode cX6_leastOf 7 = .ok (.iload_n 1, 1) := by decide +kernel
theorem dX6_leastOf_8 : decode cX6_leastOf 8 = .ok (.iaload, 1) := by decide +kernel
theorem dX6_leastOf_9 : decode cX6_leastOf 9 = .ok (.if_icmp .ge 18, 3) := by decide +kernel
theorem dX6_leastOf_12 : decode cX6_leastOf 12 = .ok (.aload_n 0, 1) := by decide +kernel
theorem dX6_leastOf_13 : decode cX6_leastOf 13 = .ok (.getfield 82, 3) := by decide +kernel
theorem dX6_leastOf_16 : decode cX6_leastOf 16 = .ok (.iload_n 2, 1) := by decide +kernel
theorem dX6_leastOf_17 : decode cX6_leastOf 17 = .ok (.ldc2_w 225, 3) := by decide +kernel
theorem dX6_leastOf_20 : decode cX6_leastOf 20 = .ok (.lastore, 1) := by decide +kernel
theorem dX6_leastOf_21 : decode cX6_leastOf 21 = .ok (.iinc 2 1, 3) := by decide +kernel
theorem dX6_leastOf_24 : decode cX6_leastOf 24 = .ok (.goto (-22), 3) := by decide +kernel
theorem dX6_leastOf_27 : decode cX6_leastOf 27 = .ok (.iconst 0, 1) := by decide +kernel
theorem dX6_leastOf_28 : decode cX6_leastOf 28 = .ok (.istore_n 2, 1) := by decide +kernel
theorem dX6_leastOf_29 : decode cX6_leastOf 29 = .ok (.iload_n 2, 1) := by decide +kernel
theorem dX6_leastOf_30 : decode cX6_leastOf 30 = .ok (.aload_n 0, 1) := by decide +kernel
theorem dX6_leastOf_31 : decode cX6_leastOf 31 = .ok (.getfield 7, 3) := by decide +kernel
theorem dX6_leastOf_34 : decode cX6_leastOf 34 = .ok (.iload_n 1, 1) := by decide +kernel
theorem dX6_leastOf_35 : decode cX6_leastOf 35 = .ok (.iaload, 1) := by decide +kernel
theorem dX6_leastOf_36 : decode cX6_leastOf 36 = .ok (.if_icmp .ge 141, 3) := by decide +kernel
theorem dX6_leastOf_39 : decode cX6_leastOf 39 = .ok (.iconst 0, 1) := by decide +kernel
theorem dX6_leastOf_40 : decode cX6_leastOf 40 = .ok (.istore_n 3, 1) := by decide +kernel
theorem dX6_leastOf_41 : decode cX6_leastOf 41 = .ok (.iload_n 3, 1) := by decide +kernel
theorem dX6_leastOf_42 : decode cX6_leastOf 42 = .ok (.aload_n 0, 1) := by decide +kernel
theorem dX6_leastOf_43 : decode cX6_leastOf 43 = .ok (.getfield 7, 3) := by decide +kernel
theorem dX6_leastOf_46 : decode cX6_leastOf 46 = .ok (.iload_n 1, 1) := by decide +kernel
theorem dX6_leastOf_47 : decode cX6_leastOf 47 = .ok (.iaload, 1) := by decide +kernel
theorem dX6_leastOf_48 : decode cX6_leastOf 48 = .ok (.if_icmp .ge 123, 3) := by decide +kernel
theorem dX6_leastOf_51 : decode cX6_leastOf 51 = .ok (.aload_n 0, 1) := by decide +kernel
theorem dX6_leastOf_52 : decode cX6_leastOf 52 = .ok (.iload_n 1, 1) := by decide +kernel
theorem dX6_leastOf_53 : decode cX6_leastOf 53 = .ok (.iload_n 3, 1) := by decide +kernel
theorem dX6_leastOf_54 : decode cX6_leastOf 54 = .ok (.invokevirtual 216, 3) := by decide +kernel
theorem dX6_leastOf_57 : decode cX6_leastOf 57 = .ok (.istore 4, 2) := by decide +kernel
theorem dX6_leastOf_59 : decode cX6_leastOf 59 = .ok (.iload 4, 2) := by decide +kernel
theorem dX6_leastOf_61 : decode cX6_leastOf 61 = .ok (.invokestatic 102, 3) := by decide +kernel
theorem dX6_leastOf_64 : decode cX6_leastOf 64 = .ok (.istore 5, 2) := by decide +kernel
theorem dX6_leastOf_66 : decode cX6_leastOf 66 = .ok (.aload_n 0, 1) := by decide +kernel
theorem dX6_leastOf_67 : decode cX6_leastOf 67 = .ok (.getfield 82, 3) := by decide +kernel
theorem dX6_leastOf_70 : decode cX6_leastOf 70 = .ok (.iload 4, 2) := by decide +kernel
theorem dX6_leastOf_72 : decode cX6_leastOf 72 = .ok (.iconst 0, 1) := by decide +kernel
theorem dX6_leastOf_73 : decode cX6_leastOf 73 = .ok (.invokestatic 106, 3) := by decide +kernel
theorem dX6_leastOf_76 : decode cX6_leastOf 76 = .ok (.laload, 1) := by decide +kernel
theorem dX6_leastOf_77 : decode cX6_leastOf 77 = .ok (.lstore 6, 2) := by decide +kernel
theorem dX6_leastOf_79 : decode cX6_leastOf 79 = .ok (.aload_n 0, 1) := by decide +kernel
theorem dX6_leastOf_80 : decode cX6_leastOf 80 = .ok (.getfield 82, 3) := by decide +kernel
theorem dX6_leastOf_83 : decode cX6_leastOf 83 = .ok (.iload 4, 2) := by decide +kernel
theorem dX6_leastOf_85 : decode cX6_leastOf 85 = .ok (.iconst 1, 1) := by decide +kernel
theorem dX6_leastOf_86 : decode cX6_leastOf 86 = .ok (.invokestatic 106, 3) := by decide +kernel
theorem dX6_leastOf_89 : decode cX6_leastOf 89 = .ok (.laload, 1) := by decide +kernel
theorem dX6_leastOf_90 : decode cX6_leastOf 90 = .ok (.lstore 8, 2) := by decide +kernel
theorem dX6_leastOf_92 : decode cX6_leastOf 92 = .ok (.iload 5, 2) := by decide +kernel
theorem dX6_leastOf_94 : decode cX6_leastOf 94 = .ok (.ifCond .ne 9, 3) := by decide +kernel
theorem dX6_leastOf_97 : decode cX6_leastOf 97 = .ok (.ldc2_w 225, 3) := by decide +kernel
theorem dX6_leastOf_100 : decode cX6_leastOf 100 = .ok (.goto 40, 3) := by decide +kernel
theorem dX6_leastOf_103 : decode cX6_leastOf 103 = .ok (.iload 5, 2) := by decide +kernel
theorem dX6_leastOf_105 : decode cX6_leastOf 105 = .ok (.iconst 5, 1) := by decide +kernel
theorem dX6_leastOf_106 : decode cX6_leastOf 106 = .ok (.if_icmp .eq 7, 3) := by decide +kernel
theorem dX6_leastOf_109 : decode cX6_leastOf 109 = .ok (.lconst 1, 1) := by decide +kernel
theorem dX6_leastOf_110 : decode cX6_leastOf 110 = .ok (.goto 30, 3) := by decide +kernel
theorem dX6_leastOf_113 : decode cX6_leastOf 113 = .ok (.lload 6, 2) := by decide +kernel
theorem dX6_leastOf_115 : decode cX6_leastOf 115 = .ok (.lconst 0, 1) := by decide +kernel
theorem dX6_leastOf_116 : decode cX6_leastOf 116 = .ok (.lcmp, 1) := by decide +kernel
theorem dX6_leastOf_117 : decode cX6_leastOf 117 = .ok (.ifCond .lt 10, 3) := by decide +kernel
theorem dX6_leastOf_120 : decode cX6_leastOf 120 = .ok (.lload 8, 2) := by decide +kernel
theorem dX6_leastOf_122 : decode cX6_leastOf 122 = .ok (.lconst 0, 1) := by decide +kernel
theorem dX6_leastOf_123 : decode cX6_leastOf 123 = .ok (.lcmp, 1) := by decide +kernel
theorem dX6_leastOf_124 : decode cX6_leastOf 124 = .ok (.ifCond .ge 9, 3) := by decide +kernel
theorem dX6_leastOf_127 : decode cX6_leastOf 127 = .ok (.ldc2_w 225, 3) := by decide +kernel
theorem dX6_leastOf_130 : decode cX6_leastOf 130 = .ok (.goto 10, 3) := by decide +kernel
theorem dX6_leastOf_133 : decode cX6_leastOf 133 = .ok (.lconst 1, 1) := by decide +kernel
theorem dX6_leastOf_134 : decode cX6_leastOf 134 = .ok (.lload 6, 2) := by decide +kernel
theorem dX6_leastOf_136 : decode cX6_leastOf 136 = .ok (.ladd, 1) := by decide +kernel
theorem dX6_leastOf_137 : decode cX6_leastOf 137 = .ok (.lload 8, 2) := by decide +kernel
theorem dX6_leastOf_139 : decode cX6_leastOf 139 = .ok (.ladd, 1) := by decide +kernel
theorem dX6_leastOf_140 : decode cX6_leastOf 140 = .ok (.lstore 10, 2) := by decide +kernel
theorem dX6_leastOf_142 : decode cX6_leastOf 142 = .ok (.aload_n 0, 1) := by decide +kernel
theorem dX6_leastOf_143 : decode cX6_leastOf 143 = .ok (.getfield 82, 3) := by decide +kernel
theorem dX6_leastOf_146 : decode cX6_leastOf 146 = .ok (.iload_n 3, 1) := by decide +kernel
theorem dX6_leastOf_147 : decode cX6_leastOf 147 = .ok (.lload 10, 2) := by decide +kernel
theorem dX6_leastOf_149 : decode cX6_leastOf 149 = .ok (.ldc2_w 227, 3) := by decide +kernel
theorem dX6_leastOf_152 : decode cX6_leastOf 152 = .ok (.lcmp, 1) := by decide +kernel
theorem dX6_leastOf_153 : decode cX6_leastOf 153 = .ok (.ifCond .le 9, 3) := by decide +kernel
theorem dX6_leastOf_156 : decode cX6_leastOf 156 = .ok (.ldc2_w 227, 3) := by decide +kernel
theorem dX6_leastOf_159 : decode cX6_leastOf 159 = .ok (.goto 5, 3) := by decide +kernel
theorem dX6_leastOf_162 : decode cX6_leastOf 162 = .ok (.lload 10, 2) := by decide +kernel
theorem dX6_leastOf_164 : decode cX6_leastOf 164 = .ok (.lastore, 1) := by decide +kernel
theorem dX6_leastOf_165 : decode cX6_leastOf 165 = .ok (.iinc 3 1, 3) := by decide +kernel
theorem dX6_leastOf_168 : decode cX6_leastOf 168 = .ok (.goto (-127), 3) := by decide +kernel
theorem dX6_leastOf_171 : decode cX6_leastOf 171 = .ok (.iinc 2 1, 3) := by decide +kernel
theorem dX6_leastOf_174 : decode cX6_leastOf 174 = .ok (.goto (-145), 3) := by decide +kernel
theorem dX6_leastOf_177 : decode cX6_leastOf 177 = .ok (.aload_n 0, 1) := by decide +kernel
theorem dX6_leastOf_178 : decode cX6_leastOf 178 = .ok (.getfield 82, 3) := by decide +kernel
theorem dX6_leastOf_181 : decode cX6_leastOf 181 = .ok (.iconst 0, 1) := by decide +kernel
theorem dX6_leastOf_182 : decode cX6_leastOf 182 = .ok (.laload, 1) := by decide +kernel
theorem dX6_leastOf_183 : decode cX6_leastOf 183 = .ok (.l2i, 1) := by decide +kernel
theorem dX6_leastOf_184 : decode cX6_leastOf 184 = .ok (.ireturn, 1) := by decide +kernel
theorem dX6_filled_0 : decode cX6_filled 0 = .ok (.aload_n 0, 1) := by decide +kernel
theorem dX6_filled_1 : decode cX6_filled 1 = .ok (.iload_n 1, 1) := by decide +kernel
theorem dX6_filled_2 : decode cX6_filled 2 = .ok (.invokevirtual 204, 3) := by decide +kernel
theorem dX6_filled_5 : decode cX6_filled 5 = .ok (.ifCond .ne 10, 3) := by decide +kernel
theorem dX6_filled_8 : decode cX6_filled 8 = .ok (.aload_n 0, 1) := by decide +kernel
theorem dX6_filled_9 : decode cX6_filled 9 = .ok (.bipush (-2), 2) := by decide +kernel
theorem dX6_filled_11 : decode cX6_filled 11 = .ok (.invokevirtual 138, 3) := by decide +kernel
theorem dX6_filled_14 : decode cX6_filled 14 = .ok (.ireturn, 1) := by decide +kernel
theorem dX6_filled_15 : decode cX6_filled 15 = .ok (.aload_n 0, 1) := by decide +kernel
theorem dX6_filled_16 : decode cX6_filled 16 = .ok (.iload_n 1, 1) := by decide +kernel
theorem dX6_filled_17 : decode cX6_filled 17 = .ok (.invokevirtual 233, 3) := by decide +kernel
theorem dX6_filled_20 : decode cX6_filled 20 = .ok (.ifCond .le 7, 3) := by decide +kernel
theorem dX6_filled_23 : decode cX6_filled 23 = .ok (.iconst 1, 1) := by decide +kernel
theorem dX6_filled_24 : decode cX6_filled 24 = .ok (.goto 4, 3) := by decide +kernel
theorem dX6_filled_27 : decode cX6_filled 27 = .ok (.iconst 0, 1) := by decide +kernel
theorem dX6_filled_28 : decode cX6_filled 28 = .ok (.ireturn, 1) := by decide +kernel
theorem dX6_least_0 : decode cX6_least 0 = .ok (.aload_n 0, 1) := by decide +kernel
theorem dX6_least_1 : decode cX6_least 1 = .ok (.iload_n 1, 1) := by decide +kernel
theorem dX6_least_2 : decode cX6_least 2 = .ok (.invokevirtual 204, 3) := by decide +kernel
theorem dX6_least_5 : decode cX6_least 5 = .ok (.ifCond .eq 11, 3) := by decide +kernel
theorem dX6_least_8 : decode cX6_least 8 = .ok (.aload_n 0, 1) := by decide +kernel
theorem dX6_least_9 : decode cX6_least 9 = .ok (.iload_n 1, 1) := by decide +kernel
theorem dX6_least_10 : decode cX6_least 10 = .ok (.invokevirtual 233, 3) := by decide +kernel
theorem dX6_least_13 : decode cX6_least 13 = .ok (.goto 9, 3) := by decide +kernel
theorem dX6_least_16 : decode cX6_least 16 = .ok (.aload_n 0, 1) := by decide +kernel
theorem dX6_least_17 : decode cX6_least 17 = .ok (.bipush (-2), 2) := by decide +kernel
theorem dX6_least_19 : decode cX6_least 19 = .ok (.invokevirtual 138, 3) := by decide +kernel
theorem dX6_least_22 : decode cX6_least 22 = .ok (.ireturn, 1) := by decide +kernel
theorem dX6_signs_0 : decode cX6_signs 0 = .ok (.aload_n 0, 1) := by decide +kernel
theorem dX6_signs_1 : decode cX6_signs 1 = .ok (.iload_n 1, 1) := by decide +kernel
theorem dX6_signs_2 : decode cX6_signs 2 = .ok (.invokevirtual 204, 3) := by decide +kernel
theorem dX6_signs_5 : decode cX6_signs 5 = .ok (.ifCond .eq 11, 3) := by decide +kernel
theorem dX6_signs_8 : decode cX6_signs 8 = .ok (.aload_n 0, 1) := by decide +kernel
theorem dX6_signs_9 : decode cX6_signs 9 = .ok (.iload_n 2, 1) := by decide +kernel
theorem dX6_signs_10 : decode cX6_signs 10 = .ok (.invokevirtual 204, 3) := by decide +kernel
theorem dX6_signs_13 : decode cX6_signs 13 = .ok (.ifCond .ne 10, 3) := by decide +kernel
theorem dX6_signs_16 : decode cX6_signs 16 = .ok (.aload_n 0, 1) := by decide +kernel
theorem dX6_signs_17 : decode cX6_signs 17 = .ok (.bipush (-2), 2) := by decide +kernel
theorem dX6_signs_19 : decode cX6_signs 19 = .ok (.invokevirtual 138, 3) := by decide +kernel
theorem dX6_signs_22 : decode cX6_signs 22 = .ok (.ireturn, 1) := by decide +kernel
theorem dX6_signs_23 : decode cX6_signs 23 = .ok (.aload_n 0, 1) := by decide +kernel
theorem dX6_signs_24 : decode cX6_signs 24 = .ok (.iload_n 1, 1) := by decide +kernel
theorem dX6_signs_25 : decode cX6_signs 25 = .ok (.iload_n 2, 1) := by decide +kernel
theorem dX6_signs_26 : decode cX6_signs 26 = .ok (.invokevirtual 213, 3) := by decide +kernel
theorem dX6_signs_29 : decode cX6_signs 29 = .ok (.istore_n 3, 1) := by decide +kernel
theorem dX6_signs_30 : decode cX6_signs 30 = .ok (.iconst 0, 1) := by decide +kernel
theorem dX6_signs_31 : decode cX6_signs 31 = .ok (.istore 4, 2) := by decide +kernel
theorem dX6_signs_33 : decode cX6_signs 33 = .ok (.iload 4, 2) := by decide +kernel
theorem dX6_signs_35 : decode cX6_signs 35 = .ok (.iload_n 3, 1) := by decide +kernel
theorem dX6_signs_36 : decode cX6_signs 36 = .ok (.if_icmp .ge 26, 3) := by decide +kernel
theorem dX6_signs_39 : decode cX6_signs 39 = .ok (.aload_n 0, 1) := by decide +kernel
theorem dX6_signs_40 : decode cX6_signs 40 = .ok (.getfield 58, 3) := by decide +kernel
theorem dX6_signs_43 : decode cX6_signs 43 = .ok (.iload 4, 2) := by decide +kernel
theorem dX6_signs_45 : decode cX6_signs 45 = .ok (.iload 4, 2) := by decide +kernel
theorem dX6_signs_47 : decode cX6_signs 47 = .ok (.ifCond .ne 7, 3) := by decide +kernel
theorem dX6_signs_50 : decode cX6_signs 50 = .ok (.iconst 1, 1) := by decide +kernel
theorem dX6_signs_51 : decode cX6_signs 51 = .ok (.goto 4, 3) := by decide +kernel
theorem dX6_signs_54 : decode cX6_signs 54 = .ok (.iconst 0, 1) := by decide +kernel
theorem dX6_signs_55 : decode cX6_signs 55 = .ok (.iastore, 1) := by decide +kernel
theorem dX6_signs_56 : decode cX6_signs 56 = .ok (.iinc 4 1, 3) := by decide +kernel
theorem dX6_signs_59 : decode cX6_signs 59 = .ok (.goto (-26), 3) := by decide +kernel
theorem dX6_signs_62 : decode cX6_signs 62 = .ok (.iconst 0, 1) := by decide +kernel
theorem dX6_signs_63 : decode cX6_signs 63 = .ok (.istore 4, 2) := by decide +kernel
theorem dX6_signs_65 : decode cX6_signs 65 = .ok (.iload 4, 2) := by decide +kernel
theorem dX6_signs_67 : decode cX6_signs 67 = .ok (.bipush 80, 2) := by decide +kernel
theorem dX6_signs_69 : decode cX6_signs 69 = .ok (.if_icmp .ge 124, 3) := by decide +kernel
theorem dX6_signs_72 : decode cX6_signs 72 = .ok (.iconst 0, 1) := by decide +kernel
theorem dX6_signs_73 : decode cX6_signs 73 = .ok (.istore 5, 2) := by decide +kernel
theorem dX6_signs_75 : decode cX6_signs 75 = .ok (.iload 5, 2) := by decide +kernel
theorem dX6_signs_77 : decode cX6_signs 77 = .ok (.iload_n 3, 1) := by decide +kernel
theorem dX6_signs_78 : decode cX6_signs 78 = .ok (.if_icmp .ge 109, 3) := by decide +kernel
theorem dX6_signs_81 : decode cX6_signs 81 = .ok (.aload_n 0, 1) := by decide +kernel
theorem dX6_signs_82 : decode cX6_signs 82 = .ok (.getfield 28, 3) := by decide +kernel
theorem dX6_signs_85 : decode cX6_signs 85 = .ok (.iload 5, 2) := by decide +kernel
theorem dX6_signs_87 : decode cX6_signs 87 = .ok (.iaload, 1) := by decide +kernel
theorem dX6_signs_88 : decode cX6_signs 88 = .ok (.invokestatic 102, 3) := by decide +kernel
theorem dX6_signs_91 : decode cX6_signs 91 = .ok (.istore 6, 2) := by decide +kernel
theorem dX6_signs_93 : decode cX6_signs 93 = .ok (.iconst 0, 1) := by decide +kernel
theorem dX6_signs_94 : decode cX6_signs 94 = .ok (.istore 7, 2) := by decide +kernel
theorem dX6_signs_96 : decode cX6_signs 96 = .ok (.iload 7, 2) := by decide +kernel
theorem dX6_signs_98 : decode cX6_signs 98 = .ok (.iload 6, 2) := by decide +kernel
theorem dX6_signs_100 : decode cX6_signs 100 = .ok (.invokestatic 113, 3) := by decide +kernel
theorem dX6_signs_103 : decode cX6_signs 103 = .ok (.if_icmp .ge 78, 3) := by decide +kernel
theorem dX6_signs_106 : decode cX6_signs 106 = .ok (.aload_n 0, 1) := by decide +kernel
theorem dX6_signs_107 : decode cX6_signs 107 = .ok (.getfield 58, 3) := by decide +kernel
theorem dX6_signs_110 : decode cX6_signs 110 = .ok (.iload 5, 2) := by decide +kernel
theorem dX6_signs_112 : decode cX6_signs 112 = .ok (.iaload, 1) := by decide +kernel
theorem dX6_signs_113 : decode cX6_signs 113 = .ok (.istore 8, 2) := by decide +kernel
theorem dX6_signs_115 : decode cX6_signs 115 = .ok (.iload 6, 2) := by decide +kernel
theorem dX6_signs_117 : decode cX6_signs 117 = .ok (.bipush 6, 2) := by decide +kernel
theorem dX6_signs_119 : decode cX6_signs 119 = .ok (.if_icmp .ne 12, 3) := by decide +kernel
theorem dX6_signs_122 : decode cX6_signs 122 = .ok (.iload 7, 2) := by decide +kernel
theorem dX6_signs_124 : decode cX6_signs 124 = .ok (.ifCond .ne 7, 3) := by decide +kernel
theorem dX6_signs_127 : decode cX6_signs 127 = .ok (.iconst 1, 1) := by decide +kernel
theorem dX6_signs_128 : decode cX6_signs 128 = .ok (.goto 4, 3) := by decide +kernel
theorem dX6_signs_131 : decode cX6_signs 131 = .ok (.iconst 0, 1) := by decide +kernel
theorem dX6_signs_132 : decode cX6_signs 132 = .ok (.istore 9, 2) := by decide +kernel
theorem dX6_signs_134 : decode cX6_signs 134 = .ok (.aload_n 0, 1) := by decide +kernel
theorem dX6_signs_135 : decode cX6_signs 135 = .ok (.getfield 58, 3) := by decide +kernel
theorem dX6_signs_138 : decode cX6_signs 138 = .ok (.aload_n 0, 1) := by decide +kernel
theorem dX6_signs_139 : decode cX6_signs 139 = .ok (.getfield 28, 3) := by decide +kernel
theorem dX6_signs_142 : decode cX6_signs 142 = .ok (.iload 5, 2) := by decide +kernel
theorem dX6_signs_144 : decode cX6_signs 144 = .ok (.iaload, 1) := by decide +kernel
theorem dX6_signs_145 : decode cX6_signs 145 = .ok (.iload 7, 2) := by decide +kernel
theorem dX6_signs_147 : decode cX6_signs 147 = .ok (.invokestatic 106, 3) := by decide +kernel
theorem dX6_signs_150 : decode cX6_signs 150 = .ok (.dup2, 1) := by decide +kernel
theorem dX6_signs_151 : decode cX6_signs 151 = .ok (.iaload, 1) := by decide +kernel
theorem dX6_signs_152 : decode cX6_signs 152 = .ok (.iload 9, 2) := by decide +kernel
theorem dX6_signs_154 : decode cX6_signs 154 = .ok (.ifCond .eq 17, 3) := by decide +kernel
theorem dX6_signs_157 : decode cX6_signs 157 = .ok (.iload 8, 2) := by decide +kernel
theorem dX6_signs_159 : decode cX6_signs 159 = .ok (.iconst 1, 1) := by decide +kernel
theorem dX6_signs_160 : decode cX6_signs 160 = .ok (.ishr, 1) := by decide +kernel
theorem dX6_signs_161 : decode cX6_signs 161 = .ok (.iload 8, 2) := by decide +kernel
theorem dX6_signs_163 : decode cX6_signs 163 = .ok (.iconst 1, 1) := by decide +kernel
theorem dX6_signs_164 : decode cX6_signs 164 = .ok (.ishl, 1) := by decide +kernel
theorem dX6_signs_165 : decode cX6_signs 165 = .ok (.iconst 2, 1) := by decide +kernel
theorem dX6_signs_166 : decode cX6_signs 166 = .ok (.iand, 1) := by decide +kernel
theorem dX6_signs_167 : decode cX6_signs 167 = .ok (.ior, 1) := by decide +kernel
theorem dX6_signs_168 : decode cX6_signs 168 = .ok (.goto 5, 3) := by decide +kernel
theorem dX6_signs_171 : decode cX6_signs 171 = .ok (.iload 8, 2) := by decide +kernel
theorem dX6_signs_173 : decode cX6_signs 173 = .ok (.ior, 1) := by decide +kernel
theorem dX6_signs_174 : decode cX6_signs 174 = .ok (.iastore, 1) := by decide +kernel
theorem dX6_signs_175 : decode cX6_signs 175 = .ok (.iinc 7 1, 3) := by decide +kernel
theorem dX6_signs_178 : decode cX6_signs 178 = .ok (.goto (-82), 3) := by decide +kernel
theorem dX6_signs_181 : decode cX6_signs 181 = .ok (.iinc 5 1, 3) := by decide +kernel
theorem dX6_signs_184 : decode cX6_signs 184 = .ok (.goto (-109), 3) := by decide +kernel
theorem dX6_signs_187 : decode cX6_signs 187 = .ok (.iinc 4 1, 3) := by decide +kernel
theorem dX6_signs_190 : decode cX6_signs 190 = .ok (.goto (-125), 3) := by decide +kernel
theorem dX6_signs_193 : decode cX6_signs 193 = .ok (.iconst 0, 1) := by decide +kernel
theorem dX6_signs_194 : decode cX6_signs 194 = .ok (.istore 4, 2) := by decide +kernel
theorem dX6_signs_196 : decode cX6_signs 196 = .ok (.iconst 0, 1) := by decide +kernel
theorem dX6_signs_197 : decode cX6_signs 197 = .ok (.istore 5, 2) := by decide +kernel
theorem dX6_signs_199 : decode cX6_signs 199 = .ok (.iload 5, 2) := by decide +kernel
theorem dX6_signs_201 : decode cX6_signs 201 = .ok (.iload_n 3, 1) := by decide +kernel
theorem dX6_signs_202 : decode cX6_signs 202 = .ok (.if_icmp .ge 41, 3) := by decide +kernel
theorem dX6_signs_205 : decode cX6_signs 205 = .ok (.iload 4, 2) := by decide +kernel
theorem dX6_signs_207 : decode cX6_signs 207 = .ok (.aload_n 0, 1) := by decide +kernel
theorem dX6_signs_208 : decode cX6_signs 208 = .ok (.getfield 37, 3) := by decide +kernel
theorem dX6_signs_211 : decode cX6_signs 211 = .ok (.iload 5, 2) := by decide +kernel
theorem dX6_signs_213 : decode cX6_signs 213 = .ok (.iaload, 1) := by decide +kernel
theorem dX6_signs_214 : decode cX6_signs 214 = .ok (.aload_n 0, 1) := by decide +kernel
theorem dX6_signs_215 : decode cX6_signs 215 = .ok (.getfield 37, 3) := by decide +kernel
theorem dX6_signs_218 : decode cX6_signs 218 = .ok (.iload_n 3, 1) := by decide +kernel
theorem dX6_signs_219 : decode cX6_signs 219 = .ok (.iaload, 1) := by decide +kernel
theorem dX6_signs_220 : decode cX6_signs 220 = .ok (.if_icmp .ne 13, 3) := by decide +kernel
theorem dX6_signs_223 : decode cX6_signs 223 = .ok (.aload_n 0, 1) := by decide +kernel
theorem dX6_signs_224 : decode cX6_signs 224 = .ok (.getfield 58, 3) := by decide +kernel
theorem dX6_signs_227 : decode cX6_signs 227 = .ok (.iload 5, 2) := by decide +kernel
theorem dX6_signs_229 : decode cX6_signs 229 = .ok (.iaload, 1) := by decide +kernel
theorem dX6_signs_230 : decode cX6_signs 230 = .ok (.goto 4, 3) := by decide +kernel
theorem dX6_signs_233 : decode cX6_signs 233 = .ok (.iconst 0, 1) := by decide +kernel
theorem dX6_signs_234 : decode cX6_signs 234 = .ok (.ior, 1) := by decide +kernel
theorem dX6_signs_235 : decode cX6_signs 235 = .ok (.istore 4, 2) := by decide +kernel
theorem dX6_signs_237 : decode cX6_signs 237 = .ok (.iinc 5 1, 3) := by decide +kernel
theorem dX6_signs_240 : decode cX6_signs 240 = .ok (.goto (-41), 3) := by decide +kernel
theorem dX6_signs_243 : decode cX6_signs 243 = .ok (.iload 4, 2) := by decide +kernel
theorem dX6_signs_245 : decode cX6_signs 245 = .ok (.ireturn, 1) := by decide +kernel
theorem dX6_base_0 : decode cX6_base 0 = .ok (.iload_n 1, 1) := by decide +kernel
theorem dX6_base_1 : decode cX6_base 1 = .ok (.iconst 0, 1) := by decide +kernel
theorem dX6_base_2 : decode cX6_base 2 = .ok (.iconst 3, 1) := by decide +kernel
theorem dX6_base_3 : decode cX6_base 3 = .ok (.invokestatic 86, 3) := by decide +kernel
theorem dX6_base_6 : decode cX6_base 6 = .ok (.ifCond .eq 10, 3) := by decide +kernel
theorem dX6_base_9 : decode cX6_base 9 = .ok (.iload_n 2, 1) := by decide +kernel
theorem dX6_base_10 : decode cX6_base 10 = .ok (.invokestatic 90, 3) := by decide +kernel
theorem dX6_base_13 : decode cX6_base 13 = .ok (.ifCond .ne 10, 3) := by decide +kernel
theorem dX6_base_16 : decode cX6_base 16 = .ok (.aload_n 0, 1) := by decide +kernel
theorem dX6_base_17 : decode cX6_base 17 = .ok (.bipush (-2), 2) := by decide +kernel
theorem dX6_base_19 : decode cX6_base 19 = .ok (.invokevirtual 138, 3) := by decide +kernel
theorem dX6_base_22 : decode cX6_base 22 = .ok (.ireturn, 1) := by decide +kernel
theorem dX6_base_23 : decode cX6_base 23 = .ok (.aload_n 0, 1) := by decide +kernel
theorem dX6_base_24 : decode cX6_base 24 = .ok (.iconst 0, 1) := by decide +kernel
theorem dX6_base_25 : decode cX6_base 25 = .ok (.putfield 94, 3) := by decide +kernel
theorem dX6_base_28 : decode cX6_base 28 = .ok (.aload_n 0, 1) := by decide +kernel
theorem dX6_base_29 : decode cX6_base 29 = .ok (.aload_n 0, 1) := by decide +kernel
theorem dX6_base_30 : decode cX6_base 30 = .ok (.iload_n 1, 1) := by decide +kernel
theorem dX6_base_31 : decode cX6_base 31 = .ok (.iconst 0, 1) := by decide +kernel
theorem dX6_base_32 : decode cX6_base 32 = .ok (.iconst 0, 1) := by decide +kernel
theorem dX6_base_33 : decode cX6_base 33 = .ok (.invokevirtual 110, 3) := by decide +kernel
theorem dX6_base_36 : decode cX6_base 36 = .ok (.iload_n 2, 1) := by decide +kernel
theorem dX6_base_37 : decode cX6_base 37 = .ok (.invokevirtual 236, 3) := by decide +kernel
theorem dX6_base_40 : decode cX6_base 40 = .ok (.ireturn, 1) := by decide +kernel
theorem dX6_make_0 : decode cX6_make 0 = .ok (.iload_n 1, 1) := by decide +kernel
theorem dX6_make_1 : decode cX6_make 1 = .ok (.iconst 4, 1) := by decide +kernel
theorem dX6_make_2 : decode cX6_make 2 = .ok (.bipush 6, 2) := by decide +kernel
theorem dX6_make_4 : decode cX6_make 4 = .ok (.invokestatic 86, 3) := by decide +kernel
theorem dX6_make_7 : decode cX6_make 7 = .ok (.ifCond .eq 27, 3) := by decide +kernel
theorem dX6_make_10 : decode cX6_make 10 = .ok (.aload_n 0, 1) := by decide +kernel
theorem dX6_make_11 : decode cX6_make 11 = .ok (.iload_n 2, 1) := by decide +kernel
theorem dX6_make_12 : decode cX6_make 12 = .ok (.invokevirtual 204, 3) := by decide +kernel
theorem dX6_make_15 : decode cX6_make 15 = .ok (.ifCond .eq 19, 3) := by decide +kernel
theorem dX6_make_18 : decode cX6_make 18 = .ok (.aload_n 0, 1) := by decide +kernel
theorem dX6_make_19 : decode cX6_make 19 = .ok (.iload_n 3, 1) := by decide +kernel
theorem dX6_make_20 : decode cX6_make 20 = .ok (.invokevirtual 204, 3) := by decide +kernel
theorem dX6_make_23 : decode cX6_make 23 = .ok (.ifCond .eq 11, 3) := by decide +kernel
theorem dX6_make_26 : decode cX6_make 26 = .ok (.iload 4, 2) := by decide +kernel
theorem dX6_make_28 : decode cX6_make 28 = .ok (.invokestatic 90, 3) := by decide +kernel
theorem dX6_make_31 : decode cX6_make 31 = .ok (.ifCond .ne 10, 3) := by decide +kernel
theorem dX6_make_34 : decode cX6_make 34 = .ok (.aload_n 0, 1) := by decide +kernel
theorem dX6_make_35 : decode cX6_make 35 = .ok (.bipush (-2), 2) := by decide +kernel
theorem dX6_make_37 : decode cX6_make 37 = .ok (.invokevirtual 138, 3) := by decide +kernel
theorem dX6_make_40 : decode cX6_make 40 = .ok (.ireturn, 1) := by decide +kernel
theorem dX6_make_41 : decode cX6_make 41 = .ok (.aload_n 0, 1) := by decide +kernel
theorem dX6_make_42 : decode cX6_make 42 = .ok (.iload_n 2, 1) := by decide +kernel
theorem dX6_make_43 : decode cX6_make 43 = .ok (.iload_n 3, 1) := by decide +kernel
theorem dX6_make_44 : decode cX6_make 44 = .ok (.invokevirtual 207, 3) := by decide +kernel
theorem dX6_make_47 : decode cX6_make 47 = .ok (.istore 5, 2) := by decide +kernel
theorem dX6_make_49 : decode cX6_make 49 = .ok (.aload_n 0, 1) := by decide +kernel
theorem dX6_make_50 : decode cX6_make 50 = .ok (.aload_n 0, 1) := by decide +kernel
theorem dX6_make_51 : decode cX6_make 51 = .ok (.iload_n 1, 1) := by decide +kernel
theorem dX6_make_52 : decode cX6_make 52 = .ok (.iconst 0, 1) := by decide +kernel
theorem dX6_make_53 : decode cX6_make 53 = .ok (.iload 5, 2) := by decide +kernel
theorem dX6_make_55 : decode cX6_make 55 = .ok (.invokevirtual 110, 3) := by decide +kernel
theorem dX6_make_58 : decode cX6_make 58 = .ok (.iload 4, 2) := by decide +kernel
theorem dX6_make_60 : decode cX6_make 60 = .ok (.invokevirtual 236, 3) := by decide +kernel
theorem dX6_make_63 : decode cX6_make 63 = .ok (.ireturn, 1) := by decide +kernel
theorem dX6_part_0 : decode cX6_part 0 = .ok (.aload_n 0, 1) := by decide +kernel
theorem dX6_part_1 : decode cX6_part 1 = .ok (.iload_n 1, 1) := by decide +kernel
theorem dX6_part_2 : decode cX6_part 2 = .ok (.invokevirtual 204, 3) := by decide +kernel
theorem dX6_part_5 : decode cX6_part 5 = .ok (.ifCond .eq 19, 3) := by decide +kernel
theorem dX6_part_8 : decode cX6_part 8 = .ok (.iload_n 2, 1) := by decide +kernel
theorem dX6_part_9 : decode cX6_part 9 = .ok (.iconst 0, 1) := by decide +kernel
theorem dX6_part_10 : decode cX6_part 10 = .ok (.iconst 1, 1) := by decide +kernel
theorem dX6_part_11 : decode cX6_part 11 = .ok (.invokestatic 86, 3) := by decide +kernel
theorem dX6_part_14 : decode cX6_part 14 = .ok (.ifCond .eq 10, 3) := by decide +kernel
theorem dX6_part_17 : decode cX6_part 17 = .ok (.iload_n 3, 1) := by decide +kernel
theorem dX6_part_18 : decode cX6_part 18 = .ok (.invokestatic 90, 3) := by decide +kernel
theorem dX6_part_21 : decode cX6_part 21 = .ok (.ifCond .ne 10, 3) := by decide +kernel
theorem dX6_part_24 : decode cX6_part 24 = .ok (.aload_n 0, 1) := by decide +kernel
theorem dX6_part_25 : decode cX6_part 25 = .ok (.bipush (-2), 2) := by decide +kernel
theorem dX6_part_27 : decode cX6_part 27 = .ok (.invokevirtual 138, 3) := by decide +kernel
theorem dX6_part_30 : decode cX6_part 30 = .ok (.ireturn, 1) := by decide +kernel
theorem dX6_part_31 : decode cX6_part 31 = .ok (.iload_n 2, 1) := by decide +kernel
theorem dX6_part_32 : decode cX6_part 32 = .ok (.aload_n 0, 1) := by decide +kernel
theorem dX6_part_33 : decode cX6_part 33 = .ok (.iload_n 1, 1) := by decide +kernel
theorem dX6_part_34 : decode cX6_part 34 = .ok (.iconst 0, 1) := by decide +kernel
theorem dX6_part_35 : decode cX6_part 35 = .ok (.invokevirtual 216, 3) := by decide +kernel
theorem dX6_part_38 : decode cX6_part 38 = .ok (.invokestatic 102, 3) := by decide +kernel
theorem dX6_part_41 : decode cX6_part 41 = .ok (.invokestatic 113, 3) := by decide +kernel
theorem dX6_part_44 : decode cX6_part 44 = .ok (.if_icmp .lt 10, 3) := by decide +kernel
theorem dX6_part_47 : decode cX6_part 47 = .ok (.aload_n 0, 1) := by decide +kernel
theorem dX6_part_48 : decode cX6_part 48 = .ok (.bipush (-3), 2) := by decide +kernel
theorem dX6_part_50 : decode cX6_part 50 = .ok (.invokevirtual 138, 3) := by decide +kernel
theorem dX6_part_53 : decode cX6_part 53 = .ok (.ireturn, 1) := by decide +kernel
theorem dX6_part_54 : decode cX6_part 54 = .ok (.aload_n 0, 1) := by decide +kernel
theorem dX6_part_55 : decode cX6_part 55 = .ok (.iconst 0, 1) := by decide +kernel
theorem dX6_part_56 : decode cX6_part 56 = .ok (.putfield 94, 3) := by decide +kernel
theorem dX6_part_59 : decode cX6_part 59 = .ok (.aload_n 0, 1) := by decide +kernel
theorem dX6_part_60 : decode cX6_part 60 = .ok (.iload_n 1, 1) := by decide +kernel
theorem dX6_part_61 : decode cX6_part 61 = .ok (.invokevirtual 192, 3) := by decide +kernel
theorem dX6_part_64 : decode cX6_part 64 = .ok (.istore 4, 2) := by decide +kernel
theorem dX6_part_66 : decode cX6_part 66 = .ok (.aload_n 0, 1) := by decide +kernel
theorem dX6_part_67 : decode cX6_part 67 = .ok (.aload_n 0, 1) := by decide +kernel
theorem dX6_part_68 : decode cX6_part 68 = .ok (.getfield 28, 3) := by decide +kernel
theorem dX6_part_71 : decode cX6_part 71 = .ok (.iload 4, 2) := by decide +kernel
theorem dX6_part_73 : decode cX6_part 73 = .ok (.iaload, 1) := by decide +kernel
theorem dX6_part_74 : decode cX6_part 74 = .ok (.iload_n 2, 1) := by decide +kernel
theorem dX6_part_75 : decode cX6_part 75 = .ok (.invokestatic 106, 3) := by decide +kernel
theorem dX6_part_78 : decode cX6_part 78 = .ok (.iload_n 3, 1) := by decide +kernel
theorem dX6_part_79 : decode cX6_part 79 = .ok (.invokevirtual 236, 3) := by decide +kernel
theorem dX6_part_82 : decode cX6_part 82 = .ok (.ireturn, 1) := by decide +kernel
theorem dX6_copy_0 : decode cX6_copy 0 = .ok (.aload_n 0, 1) := by decide +kernel
theorem dX6_copy_1 : decode cX6_copy 1 = .ok (.iload_n 1, 1) := by decide +kernel
theorem dX6_copy_2 : decode cX6_copy 2 = .ok (.invokevirtual 204, 3) := by decide +kernel
theorem dX6_copy_5 : decode cX6_copy 5 = .ok (.ifCond .eq 10, 3) := by decide +kernel
theorem dX6_copy_8 : decode cX6_copy 8 = .ok (.iload_n 2, 1) := by decide +kernel
theorem dX6_copy_9 : decode cX6_copy 9 = .ok (.invokestatic 90, 3) := by decide +kernel
theorem dX6_copy_12 : decode cX6_copy 12 = .ok (.ifCond .ne 10, 3) := by decide +kernel
theorem dX6_copy_15 : decode cX6_copy 15 = .ok (.aload_n 0, 1) := by decide +kernel
theorem dX6_copy_16 : decode cX6_copy 16 = .ok (.bipush (-2), 2) := by decide +kernel
theorem dX6_copy_18 : decode cX6_copy 18 = .ok (.invokevirtual 138, 3) := by decide +kernel
theorem dX6_copy_21 : decode cX6_copy 21 = .ok (.ireturn, 1) := by decide +kernel
theorem dX6_copy_22 : decode cX6_copy 22 = .ok (.aload_n 0, 1) := by decide +kernel
theorem dX6_copy_23 : decode cX6_copy 23 = .ok (.iconst 0, 1) := by decide +kernel
theorem dX6_copy_24 : decode cX6_copy 24 = .ok (.putfield 94, 3) := by decide +kernel
theorem dX6_copy_27 : decode cX6_copy 27 = .ok (.aload_n 0, 1) := by decide +kernel
theorem dX6_copy_28 : decode cX6_copy 28 = .ok (.aload_n 0, 1) := by decide +kernel
theorem dX6_copy_29 : decode cX6_copy 29 = .ok (.iload_n 1, 1) := by decide +kernel
theorem dX6_copy_30 : decode cX6_copy 30 = .ok (.invokevirtual 192, 3) := by decide +kernel
theorem dX6_copy_33 : decode cX6_copy 33 = .ok (.iload_n 2, 1) := by decide +kernel
theorem dX6_copy_34 : decode cX6_copy 34 = .ok (.invokevirtual 236, 3) := by decide +kernel
theorem dX6_copy_37 : decode cX6_copy 37 = .ok (.ireturn, 1) := by decide +kernel
theorem dX6_pairOf_0 : decode cX6_pairOf 0 = .ok (.iconst 2, 1) := by decide +kernel
theorem dX6_pairOf_1 : decode cX6_pairOf 1 = .ok (.bipush 40, 2) := by decide +kernel
theorem dX6_pairOf_3 : decode cX6_pairOf 3 = .ok (.iload_n 1, 1) := by decide +kernel
theorem dX6_pairOf_4 : decode cX6_pairOf 4 = .ok (.imul, 1) := by decide +kernel
theorem dX6_pairOf_5 : decode cX6_pairOf 5 = .ok (.iload_n 2, 1) := by decide +kernel
theorem dX6_pairOf_6 : decode cX6_pairOf 6 = .ok (.iadd, 1) := by decide +kernel
theorem dX6_pairOf_7 : decode cX6_pairOf 7 = .ok (.iload 4, 2) := by decide +kernel
theorem dX6_pairOf_9 : decode cX6_pairOf 9 = .ok (.isub, 1) := by decide +kernel
theorem dX6_pairOf_10 : decode cX6_pairOf 10 = .ok (.imul, 1) := by decide +kernel
theorem dX6_pairOf_11 : decode cX6_pairOf 11 = .ok (.iload_n 3, 1) := by decide +kernel
theorem dX6_pairOf_12 : decode cX6_pairOf 12 = .ok (.ifCond .eq 7, 3) := by decide +kernel
theorem dX6_pairOf_15 : decode cX6_pairOf 15 = .ok (.iconst 1, 1) := by decide +kernel
theorem dX6_pairOf_16 : decode cX6_pairOf 16 = .ok (.goto 4, 3) := by decide +kernel
theorem dX6_pairOf_19 : decode cX6_pairOf 19 = .ok (.iconst 0, 1) := by decide +kernel
theorem dX6_pairOf_20 : decode cX6_pairOf 20 = .ok (.iadd, 1) := by decide +kernel
theorem dX6_pairOf_21 : decode cX6_pairOf 21 = .ok (.istore 5, 2) := by decide +kernel
theorem dX6_pairOf_23 : decode cX6_pairOf 23 = .ok (.aload_n 0, 1) := by decide +kernel
theorem dX6_pairOf_24 : decode cX6_pairOf 24 = .ok (.getfield 49, 3) := by decide +kernel
theorem dX6_pairOf_27 : decode cX6_pairOf 27 = .ok (.iload 5, 2) := by decide +kernel
theorem dX6_pairOf_29 : decode cX6_pairOf 29 = .ok (.iaload, 1) := by decide +kernel
theorem dX6_pairOf_30 : decode cX6_pairOf 30 = .ok (.ifCond .ne 40, 3) := by decide +kernel
theorem dX6_pairOf_33 : decode cX6_pairOf 33 = .ok (.aload_n 0, 1) := by decide +kernel
theorem dX6_pairOf_34 : decode cX6_pairOf 34 = .ok (.getfield 49, 3) := by decide +kernel
theorem dX6_pairOf_37 : decode cX6_pairOf 37 = .ok (.iload 5, 2) := by decide +kernel
theorem dX6_pairOf_39 : decode cX6_pairOf 39 = .ok (.aload_n 0, 1) := by decide +kernel
theorem dX6_pairOf_40 : decode cX6_pairOf 40 = .ok (.iconst 0, 1) := by decide +kernel
theorem dX6_pairOf_41 : decode cX6_pairOf 41 = .ok (.iconst 0, 1) := by decide +kernel
theorem dX6_pairOf_42 : decode cX6_pairOf 42 = .ok (.iconst 0, 1) := by decide +kernel
theorem dX6_pairOf_43 : decode cX6_pairOf 43 = .ok (.invokevirtual 110, 3) := by decide +kernel
theorem dX6_pairOf_46 : decode cX6_pairOf 46 = .ok (.iconst 1, 1) := by decide +kernel
theorem dX6_pairOf_47 : decode cX6_pairOf 47 = .ok (.iadd, 1) := by decide +kernel
theorem dX6_pairOf_48 : decode cX6_pairOf 48 = .ok (.iastore, 1) := by decide +kernel
theorem dX6_pairOf_49 : decode cX6_pairOf 49 = .ok (.aload_n 0, 1) := by decide +kernel
theorem dX6_pairOf_50 : decode cX6_pairOf 50 = .ok (.getfield 52, 3) := by decide +kernel
theorem dX6_pairOf_53 : decode cX6_pairOf 53 = .ok (.aload_n 0, 1) := by decide +kernel
theorem dX6_pairOf_54 : decode cX6_pairOf 54 = .ok (.getfield 156, 3) := by decide +kernel
theorem dX6_pairOf_57 : decode cX6_pairOf 57 = .ok (.iload 5, 2) := by decide +kernel
theorem dX6_pairOf_59 : decode cX6_pairOf 59 = .ok (.iastore, 1) := by decide +kernel
theorem dX6_pairOf_60 : decode cX6_pairOf 60 = .ok (.aload_n 0, 1) := by decide +kernel
theorem dX6_pairOf_61 : decode cX6_pairOf 61 = .ok (.dup, 1) := by decide +kernel
theorem dX6_pairOf_62 : decode cX6_pairOf 62 = .ok (.getfield 156, 3) := by decide +kernel
theorem dX6_pairOf_65 : decode cX6_pairOf 65 = .ok (.iconst 1, 1) := by decide +kernel
theorem dX6_pairOf_66 : decode cX6_pairOf 66 = .ok (.iadd, 1) := by decide +kernel
theorem dX6_pairOf_67 : decode cX6_pairOf 67 = .ok (.putfield 156, 3) := by decide +kernel
theorem dX6_pairOf_70 : decode cX6_pairOf 70 = .ok (.aload_n 0, 1) := by decide +kernel
theorem dX6_pairOf_71 : decode cX6_pairOf 71 = .ok (.getfield 49, 3) := by decide +kernel
theorem dX6_pairOf_74 : decode cX6_pairOf 74 = .ok (.iload 5, 2) := by decide +kernel
theorem dX6_pairOf_76 : decode cX6_pairOf 76 = .ok (.iaload, 1) := by decide +kernel
theorem dX6_pairOf_77 : decode cX6_pairOf 77 = .ok (.iconst 1, 1) := by decide +kernel
theorem dX6_pairOf_78 : decode cX6_pairOf 78 = .ok (.isub, 1) := by decide +kernel
theorem dX6_pairOf_79 : decode cX6_pairOf 79 = .ok (.ireturn, 1) := by decide +kernel
theorem dX6_tells_0 : decode cX6_tells 0 = .ok (.iload_n 1, 1) := by decide +kernel
theorem dX6_tells_1 : decode cX6_tells 1 = .ok (.iconst 2, 1) := by decide +kernel
theorem dX6_tells_2 : decode cX6_tells 2 = .ok (.irem, 1) := by decide +kernel
theorem dX6_tells_3 : decode cX6_tells 3 = .ok (.iconst 1, 1) := by decide +kernel
theorem dX6_tells_4 : decode cX6_tells 4 = .ok (.if_icmp .ne 7, 3) := by decide +kernel
theorem dX6_tells_7 : decode cX6_tells 7 = .ok (.iconst 1, 1) := by decide +kernel
theorem dX6_tells_8 : decode cX6_tells 8 = .ok (.goto 4, 3) := by decide +kernel
theorem dX6_tells_11 : decode cX6_tells 11 = .ok (.iconst 0, 1) := by decide +kernel
theorem dX6_tells_12 : decode cX6_tells 12 = .ok (.istore_n 3, 1) := by decide +kernel
theorem dX6_tells_13 : decode cX6_tells 13 = .ok (.aload_n 0, 1) := by decide +kernel
theorem dX6_tells_14 : decode cX6_tells 14 = .ok (.getfield 28, 3) := by decide +kernel
theorem dX6_tells_17 : decode cX6_tells 17 = .ok (.iload_n 1, 1) := by decide +kernel
theorem dX6_tells_18 : decode cX6_tells 18 = .ok (.iconst 2, 1) := by decide +kernel
theorem dX6_tells_19 : decode cX6_tells 19 = .ok (.idiv, 1) := by decide +kernel
theorem dX6_tells_20 : decode cX6_tells 20 = .ok (.bipush 40, 2) := by decide +kernel
theorem dX6_tells_22 : decode cX6_tells 22 = .ok (.idiv, 1) := by decide +kernel
theorem dX6_tells_23 : decode cX6_tells 23 = .ok (.iaload, 1) := by decide +kernel
theorem dX6_tells_24 : decode cX6_tells 24 = .ok (.istore 4, 2) := by decide +kernel
theorem dX6_tells_26 : decode cX6_tells 26 = .ok (.aload_n 0, 1) := by decide +kernel
theorem dX6_tells_27 : decode cX6_tells 27 = .ok (.getfield 28, 3) := by decide +kernel
theorem dX6_tells_30 : decode cX6_tells 30 = .ok (.iload_n 2, 1) := by decide +kernel
theorem dX6_tells_31 : decode cX6_tells 31 = .ok (.iload_n 1, 1) := by decide +kernel
theorem dX6_tells_32 : decode cX6_tells 32 = .ok (.iconst 2, 1) := by decide +kernel
theorem dX6_tells_33 : decode cX6_tells 33 = .ok (.idiv, 1) := by decide +kernel
theorem dX6_tells_34 : decode cX6_tells 34 = .ok (.bipush 40, 2) := by decide +kernel
theorem dX6_tells_36 : decode cX6_tells 36 = .ok (.irem, 1) := by decide +kernel
theorem dX6_tells_37 : decode cX6_tells 37 = .ok (.iadd, 1) := by decide +kernel
theorem dX6_tells_38 : decode cX6_tells 38 = .ok (.iaload, 1) := by decide +kernel
theorem dX6_tells_39 : decode cX6_tells 39 = .ok (.istore 5, 2) := by decide +kernel
theorem dX6_tells_41 : decode cX6_tells 41 = .ok (.aload_n 0, 1) := by decide +kernel
theorem dX6_tells_42 : decode cX6_tells 42 = .ok (.getfield 49, 3) := by decide +kernel
theorem dX6_tells_45 : decode cX6_tells 45 = .ok (.iload_n 1, 1) := by decide +kernel
theorem dX6_tells_46 : decode cX6_tells 46 = .ok (.iaload, 1) := by decide +kernel
theorem dX6_tells_47 : decode cX6_tells 47 = .ok (.iconst 1, 1) := by decide +kernel
theorem dX6_tells_48 : decode cX6_tells 48 = .ok (.isub, 1) := by decide +kernel
theorem dX6_tells_49 : decode cX6_tells 49 = .ok (.istore 6, 2) := by decide +kernel
theorem dX6_tells_51 : decode cX6_tells 51 = .ok (.iload 4, 2) := by decide +kernel
theorem dX6_tells_53 : decode cX6_tells 53 = .ok (.invokestatic 102, 3) := by decide +kernel
theorem dX6_tells_56 : decode cX6_tells 56 = .ok (.istore 7, 2) := by decide +kernel
theorem dX6_tells_58 : decode cX6_tells 58 = .ok (.iload 5, 2) := by decide +kernel
theorem dX6_tells_60 : decode cX6_tells 60 = .ok (.invokestatic 102, 3) := by decide +kernel
theorem dX6_tells_63 : decode cX6_tells 63 = .ok (.istore 8, 2) := by decide +kernel
theorem dX6_tells_65 : decode cX6_tells 65 = .ok (.iload_n 3, 1) := by decide +kernel
theorem dX6_tells_66 : decode cX6_tells 66 = .ok (.ifCond .eq 7, 3) := by decide +kernel
theorem dX6_tells_69 : decode cX6_tells 69 = .ok (.iconst 0, 1) := by decide +kernel
theorem dX6_tells_70 : decode cX6_tells 70 = .ok (.goto 4, 3) := by decide +kernel
theorem dX6_tells_73 : decode cX6_tells 73 = .ok (.iconst 3, 1) := by decide +kernel
theorem dX6_tells_74 : decode cX6_tells 74 = .ok (.istore 9, 2) := by decide +kernel
theorem dX6_tells_76 : decode cX6_tells 76 = .ok (.iload_n 3, 1) := by decide +kernel
theorem dX6_tells_77 : decode cX6_tells 77 = .ok (.ifCond .eq 7, 3) := by decide +kernel
theorem dX6_tells_80 : decode cX6_tells 80 = .ok (.iconst 3, 1) := by decide +kernel
theorem dX6_tells_81 : decode cX6_tells 81 = .ok (.goto 4, 3) := by decide +kernel
theorem dX6_tells_84 : decode cX6_tells 84 = .ok (.iconst 0, 1) := by decide +kernel
theorem dX6_tells_85 : decode cX6_tells 85 = .ok (.istore 10, 2) := by decide +kernel
theorem dX6_tells_87 : decode cX6_tells 87 = .ok (.iload 7, 2) := by decide +kernel
theorem dX6_tells_89 : decode cX6_tells 89 = .ok (.iload 9, 2) := by decide +kernel
theorem dX6_tells_91 : decode cX6_tells 91 = .ok (.if_icmp .ne 15, 3) := by decide +kernel
theorem dX6_tells_94 : decode cX6_tells 94 = .ok (.aload_n 0, 1) := by decide +kernel
theorem dX6_tells_95 : decode cX6_tells 95 = .ok (.getfield 28, 3) := by decide +kernel
theorem dX6_tells_98 : decode cX6_tells 98 = .ok (.iload 6, 2) := by decide +kernel
theorem dX6_tells_100 : decode cX6_tells 100 = .ok (.iload 5, 2) := by decide +kernel
theorem dX6_tells_102 : decode cX6_tells 102 = .ok (.iastore, 1) := by decide +kernel
theorem dX6_tells_103 : decode cX6_tells 103 = .ok (.goto 239, 3) := by decide +kernel
theorem dX6_tells_106 : decode cX6_tells 106 = .ok (.iload 8, 2) := by decide +kernel
theorem dX6_tells_108 : decode cX6_tells 108 = .ok (.iload 9, 2) := by decide +kernel
theorem dX6_tells_110 : decode cX6_tells 110 = .ok (.if_icmp .ne 15, 3) := by decide +kernel
theorem dX6_tells_113 : decode cX6_tells 113 = .ok (.aload_n 0, 1) := by decide +kernel
theorem dX6_tells_114 : decode cX6_tells 114 = .ok (.getfield 28, 3) := by decide +kernel
theorem dX6_tells_117 : decode cX6_tells 117 = .ok (.iload 6, 2) := by decide +kernel
theorem dX6_tells_119 : decode cX6_tells 119 = .ok (.iload 4, 2) := by decide +kernel
theorem dX6_tells_121 : decode cX6_tells 121 = .ok (.iastore, 1) := by decide +kernel
theorem dX6_tells_122 : decode cX6_tells 122 = .ok (.goto 220, 3) := by decide +kernel
theorem dX6_tells_125 : decode cX6_tells 125 = .ok (.iload 7, 2) := by decide +kernel
theorem dX6_tells_127 : decode cX6_tells 127 = .ok (.iload 8, 2) := by decide +kernel
theorem dX6_tells_129 : decode cX6_tells 129 = .ok (.if_icmp .ne 42, 3) := by decide +kernel
theorem dX6_tells_132 : decode cX6_tells 132 = .ok (.iload 7, 2) := by decide +kernel
theorem dX6_tells_134 : decode cX6_tells 134 = .ok (.iconst 4, 1) := by decide +kernel
theorem dX6_tells_135 : decode cX6_tells 135 = .ok (.if_icmp .ne 36, 3) := by decide +kernel
theorem dX6_tells_138 : decode cX6_tells 138 = .ok (.aload_n 0, 1) := by decide +kernel
theorem dX6_tells_139 : decode cX6_tells 139 = .ok (.getfield 28, 3) := by decide +kernel
theorem dX6_tells_142 : decode cX6_tells 142 = .ok (.iload 6, 2) := by decide +kernel
theorem dX6_tells_144 : decode cX6_tells 144 = .ok (.iconst 4, 1) := by decide +kernel
theorem dX6_tells_145 : decode cX6_tells 145 = .ok (.aload_n 0, 1) := by decide +kernel
theorem dX6_tells_146 : decode cX6_tells 146 = .ok (.iload 4, 2) := by decide +kernel
theorem dX6_tells_148 : decode cX6_tells 148 = .ok (.iconst 0, 1) := by decide +kernel
theorem dX6_tells_149 : decode cX6_tells 149 = .ok (.invokestatic 106, 3) := by decide +kernel
theorem dX6_tells_152 : decode cX6_tells 152 = .ok (.iload 5, 2) := by decide +kernel
theorem dX6_tells_154 : decode cX6_tells 154 = .ok (.iconst 0, 1) := by decide +kernel
theorem dX6_tells_155 : decode cX6_tells 155 = .ok (.invokestatic 106, 3) := by decide +kernel
theorem dX6_tells_158 : decode cX6_tells 158 = .ok (.iload_n 3, 1) := by decide +kernel
theorem dX6_tells_159 : decode cX6_tells 159 = .ok (.iload_n 2, 1) := by decide +kernel
theorem dX6_tells_160 : decode cX6_tells 160 = .ok (.invokevirtual 239, 3) := by decide +kernel
theorem dX6_tells_163 : decode cX6_tells 163 = .ok (.iconst 0, 1) := by decide +kernel
theorem dX6_tells_164 : decode cX6_tells 164 = .ok (.invokestatic 98, 3) := by decide +kernel
theorem dX6_tells_167 : decode cX6_tells 167 = .ok (.iastore, 1) := by decide +kernel
theorem dX6_tells_168 : decode cX6_tells 168 = .ok (.goto 174, 3) := by decide +kernel
theorem dX6_tells_171 : decode cX6_tells 171 = .ok (.iload 7, 2) := by decide +kernel
theorem dX6_tells_173 : decode cX6_tells 173 = .ok (.iload 8, 2) := by decide +kernel
theorem dX6_tells_175 : decode cX6_tells 175 = .ok (.if_icmp .ne 86, 3) := by decide +kernel
theorem dX6_tells_178 : decode cX6_tells 178 = .ok (.iload 7, 2) := by decide +kernel
theorem dX6_tells_180 : decode cX6_tells 180 = .ok (.invokestatic 113, 3) := by decide +kernel
theorem dX6_tells_183 : decode cX6_tells 183 = .ok (.iconst 2, 1) := by decide +kernel
theorem dX6_tells_184 : decode cX6_tells 184 = .ok (.if_icmp .ne 77, 3) := by decide +kernel
theorem dX6_tells_187 : decode cX6_tells 187 = .ok (.aload_n 0, 1) := by decide +kernel
theorem dX6_tells_188 : decode cX6_tells 188 = .ok (.iload 4, 2) := by decide +kernel
theorem dX6_tells_190 : decode cX6_tells 190 = .ok (.iconst 0, 1) := by decide +kernel
theorem dX6_tells_191 : decode cX6_tells 191 = .ok (.invokestatic 106, 3) := by decide +kernel
theorem dX6_tells_194 : decode cX6_tells 194 = .ok (.iload 5, 2) := by decide +kernel
theorem dX6_tells_196 : decode cX6_tells 196 = .ok (.iconst 0, 1) := by decide +kernel
theorem dX6_tells_197 : decode cX6_tells 197 = .ok (.invokestatic 106, 3) := by decide +kernel
theorem dX6_tells_200 : decode cX6_tells 200 = .ok (.iload 7, 2) := by decide +kernel
theorem dX6_tells_202 : decode cX6_tells 202 = .ok (.bipush 6, 2) := by decide +kernel
theorem dX6_tells_204 : decode cX6_tells 204 = .ok (.if_icmp .ne 15, 3) := by decide +kernel
theorem dX6_tells_207 : decode cX6_tells 207 = .ok (.iload_n 3, 1) := by decide +kernel
theorem dX6_tells_208 : decode cX6_tells 208 = .ok (.ifCond .ne 7, 3) := by decide +kernel
theorem dX6_tells_211 : decode cX6_tells 211 = .ok (.iconst 1, 1) := by decide +kernel
theorem dX6_tells_212 : decode cX6_tells 212 = .ok (.goto 8, 3) := by decide +kernel
theorem dX6_tells_215 : decode cX6_tells 215 = .ok (.iconst 0, 1) := by decide +kernel
theorem dX6_tells_216 : decode cX6_tells 216 = .ok (.goto 4, 3) := by decide +kernel
theorem dX6_tells_219 : decode cX6_tells 219 = .ok (.iload_n 3, 1) := by decide +kernel
theorem dX6_tells_220 : decode cX6_tells 220 = .ok (.iload_n 2, 1) := by decide +kernel
theorem dX6_tells_221 : decode cX6_tells 221 = .ok (.invokevirtual 239, 3) := by decide +kernel
theorem dX6_tells_224 : decode cX6_tells 224 = .ok (.istore 11, 2) := by decide +kernel
theorem dX6_tells_226 : decode cX6_tells 226 = .ok (.aload_n 0, 1) := by decide +kernel
theorem dX6_tells_227 : decode cX6_tells 227 = .ok (.getfield 28, 3) := by decide +kernel
theorem dX6_tells_230 : decode cX6_tells 230 = .ok (.iload 6, 2) := by decide +kernel
theorem dX6_tells_232 : decode cX6_tells 232 = .ok (.iload 7, 2) := by decide +kernel
theorem dX6_tells_234 : decode cX6_tells 234 = .ok (.iload 11, 2) := by decide +kernel
theorem dX6_tells_236 : decode cX6_tells 236 = .ok (.aload_n 0, 1) := by decide +kernel
theorem dX6_tells_237 : decode cX6_tells 237 = .ok (.iload 4, 2) := by decide +kernel
theorem dX6_tells_239 : decode cX6_tells 239 = .ok (.iconst 1, 1) := by decide +kernel
theorem dX6_tells_240 : decode cX6_tells 240 = .ok (.invokestatic 106, 3) := by decide +kernel
theorem dX6_tells_243 : decode cX6_tells 243 = .ok (.iload 5, 2) := by decide +kernel
theorem dX6_tells_245 : decode cX6_tells 245 = .ok (.iconst 1, 1) := by decide +kernel
theorem dX6_tells_246 : decode cX6_tells 246 = .ok (.invokestatic 106, 3) := by decide +kernel
theorem dX6_tells_249 : decode cX6_tells 249 = .ok (.iload_n 3, 1) := by decide +kernel
theorem dX6_tells_250 : decode cX6_tells 250 = .ok (.iload_n 2, 1) := by decide +kernel
theorem dX6_tells_251 : decode cX6_tells 251 = .ok (.invokevirtual 239, 3) := by decide +kernel
theorem dX6_tells_254 : decode cX6_tells 254 = .ok (.invokestatic 98, 3) := by decide +kernel
theorem dX6_tells_257 : decode cX6_tells 257 = .ok (.iastore, 1) := by decide +kernel
theorem dX6_tells_258 : decode cX6_tells 258 = .ok (.goto 84, 3) := by decide +kernel
theorem dX6_tells_261 : decode cX6_tells 261 = .ok (.iload 7, 2) := by decide +kernel
theorem dX6_tells_263 : decode cX6_tells 263 = .ok (.iload 8, 2) := by decide +kernel
theorem dX6_tells_265 : decode cX6_tells 265 = .ok (.if_icmp .ne 20, 3) := by decide +kernel
theorem dX6_tells_268 : decode cX6_tells 268 = .ok (.aload_n 0, 1) := by decide +kernel
theorem dX6_tells_269 : decode cX6_tells 269 = .ok (.getfield 28, 3) := by decide +kernel
theorem dX6_tells_272 : decode cX6_tells 272 = .ok (.iload 6, 2) := by decide +kernel
theorem dX6_tells_274 : decode cX6_tells 274 = .ok (.iload 7, 2) := by decide +kernel
theorem dX6_tells_276 : decode cX6_tells 276 = .ok (.iconst 0, 1) := by decide +kernel
theorem dX6_tells_277 : decode cX6_tells 277 = .ok (.iconst 0, 1) := by decide +kernel
theorem dX6_tells_278 : decode cX6_tells 278 = .ok (.invokestatic 98, 3) := by decide +kernel
theorem dX6_tells_281 : decode cX6_tells 281 = .ok (.iastore, 1) := by decide +kernel
theorem dX6_tells_282 : decode cX6_tells 282 = .ok (.goto 60, 3) := by decide +kernel
theorem dX6_tells_285 : decode cX6_tells 285 = .ok (.iload 7, 2) := by decide +kernel
theorem dX6_tells_287 : decode cX6_tells 287 = .ok (.iload 8, 2) := by decide +kernel
theorem dX6_tells_289 : decode cX6_tells 289 = .ok (.iadd, 1) := by decide +kernel
theorem dX6_tells_290 : decode cX6_tells 290 = .ok (.iconst 3, 1) := by decide +kernel
theorem dX6_tells_291 : decode cX6_tells 291 = .ok (.if_icmp .ne 37, 3) := by decide +kernel
theorem dX6_tells_294 : decode cX6_tells 294 = .ok (.iload 7, 2) := by decide +kernel
theorem dX6_tells_296 : decode cX6_tells 296 = .ok (.ifCond .le 32, 3) := by decide +kernel
theorem dX6_tells_299 : decode cX6_tells 299 = .ok (.iload 8, 2) := by decide +kernel
theorem dX6_tells_301 : decode cX6_tells 301 = .ok (.ifCond .le 27, 3) := by decide +kernel
theorem dX6_tells_304 : decode cX6_tells 304 = .ok (.aload_n 0, 1) := by decide +kernel
theorem dX6_tells_305 : decode cX6_tells 305 = .ok (.getfield 28, 3) := by decide +kernel
theorem dX6_tells_308 : decode cX6_tells 308 = .ok (.iload 6, 2) := by decide +kernel
theorem dX6_tells_310 : decode cX6_tells 310 = .ok (.iload_n 3, 1) := by decide +kernel
theorem dX6_tells_311 : decode cX6_tells 311 = .ok (.ifCond .eq 7, 3) := by decide +kernel
theorem dX6_tells_314 : decode cX6_tells 314 = .ok (.iconst 2, 1) := by decide +kernel
theorem dX6_tells_315 : decode cX6_tells 315 = .ok (.goto 4, 3) := by decide +kernel
theorem dX6_tells_318 : decode cX6_tells 318 = .ok (.iconst 1, 1) := by decide +kernel
theorem dX6_tells_319 : decode cX6_tells 319 = .ok (.iconst 0, 1) := by decide +kernel
theorem dX6_tells_320 : decode cX6_tells 320 = .ok (.iconst 0, 1) := by decide +kernel
theorem dX6_tells_321 : decode cX6_tells 321 = .ok (.invokestatic 98, 3) := by decide +kernel
theorem dX6_tells_324 : decode cX6_tells 324 = .ok (.iastore, 1) := by decide +kernel
theorem dX6_tells_325 : decode cX6_tells 325 = .ok (.goto 17, 3) := by decide +kernel
theorem dX6_tells_328 : decode cX6_tells 328 = .ok (.aload_n 0, 1) := by decide +kernel
theorem dX6_tells_329 : decode cX6_tells 329 = .ok (.getfield 28, 3) := by decide +kernel
theorem dX6_tells_332 : decode cX6_tells 332 = .ok (.iload 6, 2) := by decide +kernel
theorem dX6_tells_334 : decode cX6_tells 334 = .ok (.iload 10, 2) := by decide +kernel
theorem dX6_tells_336 : decode cX6_tells 336 = .ok (.iconst 0, 1) := by decide +kernel
theorem dX6_tells_337 : decode cX6_tells 337 = .ok (.iconst 0, 1) := by decide +kernel
theorem dX6_tells_338 : decode cX6_tells 338 = .ok (.invokestatic 98, 3) := by decide +kernel
theorem dX6_tells_341 : decode cX6_tells 341 = .ok (.iastore, 1) := by decide +kernel
theorem dX6_tells_342 : decode cX6_tells 342 = .ok (.return_, 1) := by decide +kernel
theorem dX6_bound_0 : decode cX6_bound 0 = .ok (.iload_n 1, 1) := by decide +kernel
theorem dX6_bound_1 : decode cX6_bound 1 = .ok (.iconst 0, 1) := by decide +kernel
theorem dX6_bound_2 : decode cX6_bound 2 = .ok (.iconst 1, 1) := by decide +kernel
theorem dX6_bound_3 : decode cX6_bound 3 = .ok (.invokestatic 86, 3) := by decide +kernel
theorem dX6_bound_6 : decode cX6_bound 6 = .ok (.ifCond .eq 27, 3) := by decide +kernel
theorem dX6_bound_9 : decode cX6_bound 9 = .ok (.aload_n 0, 1) := by decide +kernel
theorem dX6_bound_10 : decode cX6_bound 10 = .ok (.iload_n 2, 1) := by decide +kernel
theorem dX6_bound_11 : decode cX6_bound 11 = .ok (.invokevirtual 204, 3) := by decide +kernel
theorem dX6_bound_14 : decode cX6_bound 14 = .ok (.ifCond .eq 19, 3) := by decide +kernel
theorem dX6_bound_17 : decode cX6_bound 17 = .ok (.aload_n 0, 1) := by decide +kernel
theorem dX6_bound_18 : decode cX6_bound 18 = .ok (.iload_n 3, 1) := by decide +kernel
theorem dX6_bound_19 : decode cX6_bound 19 = .ok (.invokevirtual 204, 3) := by decide +kernel
theorem dX6_bound_22 : decode cX6_bound 22 = .ok (.ifCond .eq 11, 3) := by decide +kernel
theorem dX6_bound_25 : decode cX6_bound 25 = .ok (.iload 4, 2) := by decide +kernel
theorem dX6_bound_27 : decode cX6_bound 27 = .ok (.invokestatic 90, 3) := by decide +kernel
theorem dX6_bound_30 : decode cX6_bound 30 = .ok (.ifCond .ne 10, 3) := by decide +kernel
theorem dX6_bound_33 : decode cX6_bound 33 = .ok (.aload_n 0, 1) := by decide +kernel
theorem dX6_bound_34 : decode cX6_bound 34 = .ok (.bipush (-2), 2) := by decide +kernel
theorem dX6_bound_36 : decode cX6_bound 36 = .ok (.invokevirtual 138, 3) := by decide +kernel
theorem dX6_bound_39 : decode cX6_bound 39 = .ok (.ireturn, 1) := by decide +kernel
theorem dX6_bound_40 : decode cX6_bound 40 = .ok (.aload_n 0, 1) := by decide +kernel
theorem dX6_bound_41 : decode cX6_bound 41 = .ok (.iload_n 2, 1) := by decide +kernel
theorem dX6_bound_42 : decode cX6_bound 42 = .ok (.iload_n 3, 1) := by decide +kernel
theorem dX6_bound_43 : decode cX6_bound 43 = .ok (.invokevirtual 207, 3) := by decide +kernel
theorem dX6_bound_46 : decode cX6_bound 46 = .ok (.istore 5, 2) := by decide +kernel
theorem dX6_bound_48 : decode cX6_bound 48 = .ok (.iconst 0, 1) := by decide +kernel
theorem dX6_bound_49 : decode cX6_bound 49 = .ok (.istore 6, 2) := by decide +kernel
theorem dX6_bound_51 : decode cX6_bound 51 = .ok (.iload 6, 2) := by decide +kernel
theorem dX6_bound_53 : decode cX6_bound 53 = .ok (.sipush 3200, 3) := by decide +kernel
theorem dX6_bound_56 : decode cX6_bound 56 = .ok (.if_icmp .ge 17, 3) := by decide +kernel
theorem dX6_bound_59 : decode cX6_bound 59 = .ok (.aload_n 0, 1) := by decide +kernel
theorem dX6_bound_60 : decode cX6_bound 60 = .ok (.getfield 49, 3) := by decide +kernel
theorem dX6_bound_63 : decode cX6_bound 63 = .ok (.iload 6, 2) := by decide +kernel
theorem dX6_bound_65 : decode cX6_bound 65 = .ok (.iconst 0, 1) := by decide +kernel
theorem dX6_bound_66 : decode cX6_bound 66 = .ok (.iastore, 1) := by decide +kernel
theorem dX6_bound_67 : decode cX6_bound 67 = .ok (.iinc 6 1, 3) := by decide +kernel
theorem dX6_bound_70 : decode cX6_bound 70 = .ok (.goto (-19), 3) := by decide +kernel
theorem dX6_bound_73 : decode cX6_bound 73 = .ok (.aload_n 0, 1) := by decide +kernel
theorem dX6_bound_74 : decode cX6_bound 74 = .ok (.iconst 0, 1) := by decide +kernel
theorem dX6_bound_75 : decode cX6_bound 75 = .ok (.putfield 156, 3) := by decide +kernel
theorem dX6_bound_78 : decode cX6_bound 78 = .ok (.aload_n 0, 1) := by decide +kernel
theorem dX6_bound_79 : decode cX6_bound 79 = .ok (.iconst 0, 1) := by decide +kernel
theorem dX6_bound_80 : decode cX6_bound 80 = .ok (.iload 5, 2) := by decide +kernel
theorem dX6_bound_82 : decode cX6_bound 82 = .ok (.iload_n 1, 1) := by decide +kernel
theorem dX6_bound_83 : decode cX6_bound 83 = .ok (.iconst 1, 1) := by decide +kernel
theorem dX6_bound_84 : decode cX6_bound 84 = .ok (.if_icmp .ne 7, 3) := by decide +kernel
theorem dX6_bound_87 : decode cX6_bound 87 = .ok (.iconst 1, 1) := by decide +kernel
theorem dX6_bound_88 : decode cX6_bound 88 = .ok (.goto 4, 3) := by decide +kernel
theorem dX6_bound_91 : decode cX6_bound 91 = .ok (.iconst 0, 1) := by decide +kernel
theorem dX6_bound_92 : decode cX6_bound 92 = .ok (.iload 5, 2) := by decide +kernel
theorem dX6_bound_94 : decode cX6_bound 94 = .ok (.invokevirtual 239, 3) := by decide +kernel
theorem dX6_bound_97 : decode cX6_bound 97 = .ok (.istore 6, 2) := by decide +kernel
theorem dX6_bound_99 : decode cX6_bound 99 = .ok (.iconst 0, 1) := by decide +kernel
theorem dX6_bound_100 : decode cX6_bound 100 = .ok (.istore 7, 2) := by decide +kernel
theorem dX6_bound_102 : decode cX6_bound 102 = .ok (.iload 7, 2) := by decide +kernel
theorem dX6_bound_104 : decode cX6_bound 104 = .ok (.aload_n 0, 1) := by decide +kernel
theorem dX6_bound_105 : decode cX6_bound 105 = .ok (.getfield 156, 3) := by decide +kernel
theorem dX6_bound_108 : decode cX6_bound 108 = .ok (.if_icmp .ge 22, 3) := by decide +kernel
theorem dX6_bound_111 : decode cX6_bound 111 = .ok (.aload_n 0, 1) := by decide +kernel
theorem dX6_bound_112 : decode cX6_bound 112 = .ok (.aload_n 0, 1) := by decide +kernel
theorem dX6_bound_113 : decode cX6_bound 113 = .ok (.getfield 52, 3) := by decide +kernel
theorem dX6_bound_116 : decode cX6_bound 116 = .ok (.iload 7, 2) := by decide +kernel
theorem dX6_bound_118 : decode cX6_bound 118 = .ok (.iaload, 1) := by decide +kernel
theorem dX6_bound_119 : decode cX6_bound 119 = .ok (.iload 5, 2) := by decide +kernel
theorem dX6_bound_121 : decode cX6_bound 121 = .ok (.invokevirtual 243, 3) := by decide +kernel
theorem dX6_bound_124 : decode cX6_bound 124 = .ok (.iinc 7 1, 3) := by decide +kernel
theorem dX6_bound_127 : decode cX6_bound 127 = .ok (.goto (-25), 3) := by decide +kernel
theorem dX6_bound_130 : decode cX6_bound 130 = .ok (.aload_n 0, 1) := by decide +kernel
theorem dX6_bound_131 : decode cX6_bound 131 = .ok (.iload 6, 2) := by decide +kernel
theorem dX6_bound_133 : decode cX6_bound 133 = .ok (.iload 4, 2) := by decide +kernel
theorem dX6_bound_135 : decode cX6_bound 135 = .ok (.invokevirtual 236, 3) := by decide +kernel
theorem dX6_bound_138 : decode cX6_bound 138 = .ok (.ireturn, 1) := by decide +kernel
theorem dX6_swap_0 : decode cX6_swap 0 = .ok (.aload_n 0, 1) := by decide +kernel
theorem dX6_swap_1 : decode cX6_swap 1 = .ok (.iload_n 1, 1) := by decide +kernel
theorem dX6_swap_2 : decode cX6_swap 2 = .ok (.invokevirtual 204, 3) := by decide +kernel
theorem dX6_swap_5 : decode cX6_swap 5 = .ok (.ifCond .eq 27, 3) := by decide +kernel
theorem dX6_swap_8 : decode cX6_swap 8 = .ok (.aload_n 0, 1) := by decide +kernel
theorem dX6_swap_9 : decode cX6_swap 9 = .ok (.iload_n 2, 1) := by decide +kernel
theorem dX6_swap_10 : decode cX6_swap 10 = .ok (.invokevirtual 204, 3) := by decide +kernel
theorem dX6_swap_13 : decode cX6_swap 13 = .ok (.ifCond .eq 19, 3) := by decide +kernel
theorem dX6_swap_16 : decode cX6_swap 16 = .ok (.aload_n 0, 1) := by decide +kernel
theorem dX6_swap_17 : decode cX6_swap 17 = .ok (.iload_n 3, 1) := by decide +kernel
theorem dX6_swap_18 : decode cX6_swap 18 = .ok (.invokevirtual 204, 3) := by decide +kernel
theorem dX6_swap_21 : decode cX6_swap 21 = .ok (.ifCond .eq 11, 3) := by decide +kernel
theorem dX6_swap_24 : decode cX6_swap 24 = .ok (.iload 4, 2) := by decide +kernel
theorem dX6_swap_26 : decode cX6_swap 26 = .ok (.invokestatic 90, 3) := by decide +kernel
theorem dX6_swap_29 : decode cX6_swap 29 = .ok (.ifCond .ne 10, 3) := by decide +kernel
theorem dX6_swap_32 : decode cX6_swap 32 = .ok (.aload_n 0, 1) := by decide +kernel
theorem dX6_swap_33 : decode cX6_swap 33 = .ok (.bipush (-2), 2) := by decide +kernel
theorem dX6_swap_35 : decode cX6_swap 35 = .ok (.invokevirtual 138, 3) := by decide +kernel
theorem dX6_swap_38 : decode cX6_swap 38 = .ok (.ireturn, 1) := by decide +kernel
theorem dX6_swap_39 : decode cX6_swap 39 = .ok (.aload_n 0, 1) := by decide +kernel
theorem dX6_swap_40 : decode cX6_swap 40 = .ok (.iload_n 1, 1) := by decide +kernel
theorem dX6_swap_41 : decode cX6_swap 41 = .ok (.iload_n 2, 1) := by decide +kernel
theorem dX6_swap_42 : decode cX6_swap 42 = .ok (.invokevirtual 213, 3) := by decide +kernel
theorem dX6_swap_45 : decode cX6_swap 45 = .ok (.istore 5, 2) := by decide +kernel
theorem dX6_swap_47 : decode cX6_swap 47 = .ok (.aload_n 0, 1) := by decide +kernel
theorem dX6_swap_48 : decode cX6_swap 48 = .ok (.getfield 37, 3) := by decide +kernel
theorem dX6_swap_51 : decode cX6_swap 51 = .ok (.iload 5, 2) := by decide +kernel
theorem dX6_swap_53 : decode cX6_swap 53 = .ok (.iaload, 1) := by decide +kernel
theorem dX6_swap_54 : decode cX6_swap 54 = .ok (.istore 6, 2) := by decide +kernel
theorem dX6_swap_56 : decode cX6_swap 56 = .ok (.aload_n 0, 1) := by decide +kernel
theorem dX6_swap_57 : decode cX6_swap 57 = .ok (.iload_n 3, 1) := by decide +kernel
theorem dX6_swap_58 : decode cX6_swap 58 = .ok (.invokevirtual 192, 3) := by decide +kernel
theorem dX6_swap_61 : decode cX6_swap 61 = .ok (.istore 7, 2) := by decide +kernel
theorem dX6_swap_63 : decode cX6_swap 63 = .ok (.iconst 0, 1) := by decide +kernel
theorem dX6_swap_64 : decode cX6_swap 64 = .ok (.istore 8, 2) := by decide +kernel
theorem dX6_swap_66 : decode cX6_swap 66 = .ok (.iload 8, 2) := by decide +kernel
theorem dX6_swap_68 : decode cX6_swap 68 = .ok (.iload 5, 2) := by decide +kernel
theorem dX6_swap_70 : decode cX6_swap 70 = .ok (.if_icmp .ge 134, 3) := by decide +kernel
theorem dX6_swap_73 : decode cX6_swap 73 = .ok (.aload_n 0, 1) := by decide +kernel
theorem dX6_swap_74 : decode cX6_swap 74 = .ok (.getfield 28, 3) := by decide +kernel
theorem dX6_swap_77 : decode cX6_swap 77 = .ok (.iload 8, 2) := by decide +kernel
theorem dX6_swap_79 : decode cX6_swap 79 = .ok (.iaload, 1) := by decide +kernel
theorem dX6_swap_80 : decode cX6_swap 80 = .ok (.istore 9, 2) := by decide +kernel
theorem dX6_swap_82 : decode cX6_swap 82 = .ok (.iload 9, 2) := by decide +kernel
theorem dX6_swap_84 : decode cX6_swap 84 = .ok (.iconst 0, 1) := by decide +kernel
theorem dX6_swap_85 : decode cX6_swap 85 = .ok (.invokestatic 106, 3) := by decide +kernel
theorem dX6_swap_88 : decode cX6_swap 88 = .ok (.istore 10, 2) := by decide +kernel
theorem dX6_swap_90 : decode cX6_swap 90 = .ok (.iload 9, 2) := by decide +kernel
theorem dX6_swap_92 : decode cX6_swap 92 = .ok (.iconst 1, 1) := by decide +kernel
theorem dX6_swap_93 : decode cX6_swap 93 = .ok (.invokestatic 106, 3) := by decide +kernel
theorem dX6_swap_96 : decode cX6_swap 96 = .ok (.istore 11, 2) := by decide +kernel
theorem dX6_swap_98 : decode cX6_swap 98 = .ok (.iload 9, 2) := by decide +kernel
theorem dX6_swap_100 : decode cX6_swap 100 = .ok (.invokestatic 102, 3) := by decide +kernel
theorem dX6_swap_103 : decode cX6_swap 103 = .ok (.invokestatic 113, 3) := by decide +kernel
theorem dX6_swap_106 : decode cX6_swap 106 = .ok (.ifCond .le 7, 3) := by decide +kernel
theorem dX6_swap_109 : decode cX6_swap 109 = .ok (.iconst 1, 1) := by decide +kernel
theorem dX6_swap_110 : decode cX6_swap 110 = .ok (.goto 4, 3) := by decide +kernel
theorem dX6_swap_113 : decode cX6_swap 113 = .ok (.iconst 0, 1) := by decide +kernel
theorem dX6_swap_114 : decode cX6_swap 114 = .ok (.istore 12, 2) := by decide +kernel
theorem dX6_swap_116 : decode cX6_swap 116 = .ok (.iload 9, 2) := by decide +kernel
theorem dX6_swap_118 : decode cX6_swap 118 = .ok (.invokestatic 102, 3) := by decide +kernel
theorem dX6_swap_121 : decode cX6_swap 121 = .ok (.invokestatic 113, 3) := by decide +kernel
theorem dX6_swap_124 : decode cX6_swap 124 = .ok (.iconst 1, 1) := by decide +kernel
theorem dX6_swap_125 : decode cX6_swap 125 = .ok (.if_icmp .le 7, 3) := by decide +kernel
theorem dX6_swap_128 : decode cX6_swap 128 = .ok (.iconst 1, 1) := by decide +kernel
theorem dX6_swap_129 : decode cX6_swap 129 = .ok (.goto 4, 3) := by decide +kernel
theorem dX6_swap_132 : decode cX6_swap 132 = .ok (.iconst 0, 1) := by decide +kernel
theorem dX6_swap_133 : decode cX6_swap 133 = .ok (.istore 13, 2) := by decide +kernel
theorem dX6_swap_135 : decode cX6_swap 135 = .ok (.aload_n 0, 1) := by decide +kernel
theorem dX6_swap_136 : decode cX6_swap 136 = .ok (.getfield 28, 3) := by decide +kernel
theorem dX6_swap_139 : decode cX6_swap 139 = .ok (.iload 8, 2) := by decide +kernel
theorem dX6_swap_141 : decode cX6_swap 141 = .ok (.iload 9, 2) := by decide +kernel
theorem dX6_swap_143 : decode cX6_swap 143 = .ok (.invokestatic 102, 3) := by decide +kernel
theorem dX6_swap_146 : decode cX6_swap 146 = .ok (.iload 12, 2) := by decide +kernel
theorem dX6_swap_148 : decode cX6_swap 148 = .ok (.ifCond .eq 20, 3) := by decide +kernel
theorem dX6_swap_151 : decode cX6_swap 151 = .ok (.aload_n 0, 1) := by decide +kernel
theorem dX6_swap_152 : decode cX6_swap 152 = .ok (.getfield 37, 3) := by decide +kernel
theorem dX6_swap_155 : decode cX6_swap 155 = .ok (.iload 10, 2) := by decide +kernel
theorem dX6_swap_157 : decode cX6_swap 157 = .ok (.iaload, 1) := by decide +kernel
theorem dX6_swap_158 : decode cX6_swap 158 = .ok (.iload 6, 2) := by decide +kernel
theorem dX6_swap_160 : decode cX6_swap 160 = .ok (.if_icmp .ne 8, 3) := by decide +kernel
theorem dX6_swap_163 : decode cX6_swap 163 = .ok (.iload 7, 2) := by decide +kernel
theorem dX6_swap_165 : decode cX6_swap 165 = .ok (.goto 5, 3) := by decide +kernel
theorem dX6_swap_168 : decode cX6_swap 168 = .ok (.iload 10, 2) := by decide +kernel
theorem dX6_swap_170 : decode cX6_swap 170 = .ok (.iload 13, 2) := by decide +kernel
theorem dX6_swap_172 : decode cX6_swap 172 = .ok (.ifCond .eq 20, 3) := by decide +kernel
theorem dX6_swap_175 : decode cX6_swap 175 = .ok (.aload_n 0, 1) := by decide +kernel
theorem dX6_swap_176 : decode cX6_swap 176 = .ok (.getfield 37, 3) := by decide +kernel
theorem dX6_swap_179 : decode cX6_swap 179 = .ok (.iload 11, 2) := by decide +kernel
theorem dX6_swap_181 : decode cX6_swap 181 = .ok (.iaload, 1) := by decide +kernel
theorem dX6_swap_182 : decode cX6_swap 182 = .ok (.iload 6, 2) := by decide +kernel
theorem dX6_swap_184 : decode cX6_swap 184 = .ok (.if_icmp .ne 8, 3) := by decide +kernel
theorem dX6_swap_187 : decode cX6_swap 187 = .ok (.iload 7, 2) := by decide +kernel
theorem dX6_swap_189 : decode cX6_swap 189 = .ok (.goto 5, 3) := by decide +kernel
theorem dX6_swap_192 : decode cX6_swap 192 = .ok (.iload 11, 2) := by decide +kernel
theorem dX6_swap_194 : decode cX6_swap 194 = .ok (.invokestatic 98, 3) := by decide +kernel
theorem dX6_swap_197 : decode cX6_swap 197 = .ok (.iastore, 1) := by decide +kernel
theorem dX6_swap_198 : decode cX6_swap 198 = .ok (.iinc 8 1, 3) := by decide +kernel
theorem dX6_swap_201 : decode cX6_swap 201 = .ok (.goto (-135), 3) := by decide +kernel
theorem dX6_swap_204 : decode cX6_swap 204 = .ok (.aload_n 0, 1) := by decide +kernel
theorem dX6_swap_205 : decode cX6_swap 205 = .ok (.aload_n 0, 1) := by decide +kernel
theorem dX6_swap_206 : decode cX6_swap 206 = .ok (.getfield 37, 3) := by decide +kernel
theorem dX6_swap_209 : decode cX6_swap 209 = .ok (.iconst 0, 1) := by decide +kernel
theorem dX6_swap_210 : decode cX6_swap 210 = .ok (.iaload, 1) := by decide +kernel
theorem dX6_swap_211 : decode cX6_swap 211 = .ok (.iload 6, 2) := by decide +kernel
theorem dX6_swap_213 : decode cX6_swap 213 = .ok (.if_icmp .ne 8, 3) := by decide +kernel
theorem dX6_swap_216 : decode cX6_swap 216 = .ok (.iload 7, 2) := by decide +kernel
theorem dX6_swap_218 : decode cX6_swap 218 = .ok (.goto 4, 3) := by decide +kernel
theorem dX6_swap_221 : decode cX6_swap 221 = .ok (.iconst 0, 1) := by decide +kernel
theorem dX6_swap_222 : decode cX6_swap 222 = .ok (.iload 4, 2) := by decide +kernel
theorem dX6_swap_224 : decode cX6_swap 224 = .ok (.invokevirtual 236, 3) := by decide +kernel
theorem dX6_swap_227 : decode cX6_swap 227 = .ok (.ireturn, 1) := by decide +kernel
theorem dX6_cut_0 : decode cX6_cut 0 = .ok (.aload_n 0, 1) := by decide +kernel
theorem dX6_cut_1 : decode cX6_cut 1 = .ok (.iload_n 1, 1) := by decide +kernel
theorem dX6_cut_2 : decode cX6_cut 2 = .ok (.invokevirtual 204, 3) := by decide +kernel
theorem dX6_cut_5 : decode cX6_cut 5 = .ok (.ifCond .eq 20, 3) := by decide +kernel
theorem dX6_cut_8 : decode cX6_cut 8 = .ok (.iload_n 2, 1) := by decide +kernel
theorem dX6_cut_9 : decode cX6_cut 9 = .ok (.iconst 0, 1) := by decide +kernel
theorem dX6_cut_10 : decode cX6_cut 10 = .ok (.bipush 9, 2) := by decide +kernel
theorem dX6_cut_12 : decode cX6_cut 12 = .ok (.invokestatic 86, 3) := by decide +kernel
theorem dX6_cut_15 : decode cX6_cut 15 = .ok (.ifCond .eq 10, 3) := by decide +kernel
theorem dX6_cut_18 : decode cX6_cut 18 = .ok (.iload_n 3, 1) := by decide +kernel
theorem dX6_cut_19 : decode cX6_cut 19 = .ok (.invokestatic 90, 3) := by decide +kernel
theorem dX6_cut_22 : decode cX6_cut 22 = .ok (.ifCond .ne 10, 3) := by decide +kernel
theorem dX6_cut_25 : decode cX6_cut 25 = .ok (.aload_n 0, 1) := by decide +kernel
theorem dX6_cut_26 : decode cX6_cut 26 = .ok (.bipush (-2), 2) := by decide +kernel
theorem dX6_cut_28 : decode cX6_cut 28 = .ok (.invokevirtual 138, 3) := by decide +kernel
theorem dX6_cut_31 : decode cX6_cut 31 = .ok (.ireturn, 1) := by decide +kernel
theorem dX6_cut_32 : decode cX6_cut 32 = .ok (.aload_n 0, 1) := by decide +kernel
theorem dX6_cut_33 : decode cX6_cut 33 = .ok (.getfield 7, 3) := by decide +kernel
theorem dX6_cut_36 : decode cX6_cut 36 = .ok (.iload_n 1, 1) := by decide +kernel
theorem dX6_cut_37 : decode cX6_cut 37 = .ok (.iaload, 1) := by decide +kernel
theorem dX6_cut_38 : decode cX6_cut 38 = .ok (.istore 4, 2) := by decide +kernel
theorem dX6_cut_40 : decode cX6_cut 40 = .ok (.aload_n 0, 1) := by decide +kernel
theorem dX6_cut_41 : decode cX6_cut 41 = .ok (.iconst 0, 1) := by decide +kernel
theorem dX6_cut_42 : decode cX6_cut 42 = .ok (.putfield 94, 3) := by decide +kernel
theorem dX6_cut_45 : decode cX6_cut 45 = .ok (.iload_n 2, 1) := by decide +kernel
theorem dX6_cut_46 : decode cX6_cut 46 = .ok (.istore 5, 2) := by decide +kernel
theorem dX6_cut_48 : decode cX6_cut 48 = .ok (.iload 5, 2) := by decide +kernel
theorem dX6_cut_50 : decode cX6_cut 50 = .ok (.ifCond .lt 91, 3) := by decide +kernel
theorem dX6_cut_53 : decode cX6_cut 53 = .ok (.iconst 0, 1) := by decide +kernel
theorem dX6_cut_54 : decode cX6_cut 54 = .ok (.istore 6, 2) := by decide +kernel
theorem dX6_cut_56 : decode cX6_cut 56 = .ok (.iload 6, 2) := by decide +kernel
theorem dX6_cut_58 : decode cX6_cut 58 = .ok (.iload 4, 2) := by decide +kernel
theorem dX6_cut_60 : decode cX6_cut 60 = .ok (.if_icmp .ge 75, 3) := by decide +kernel
theorem dX6_cut_63 : decode cX6_cut 63 = .ok (.aload_n 0, 1) := by decide +kernel
theorem dX6_cut_64 : decode cX6_cut 64 = .ok (.iload_n 1, 1) := by decide +kernel
theorem dX6_cut_65 : decode cX6_cut 65 = .ok (.iload 6, 2) := by decide +kernel
theorem dX6_cut_67 : decode cX6_cut 67 = .ok (.invokevirtual 216, 3) := by decide +kernel
theorem dX6_cut_70 : decode cX6_cut 70 = .ok (.istore 7, 2) := by decide +kernel
theorem dX6_cut_72 : decode cX6_cut 72 = .ok (.aload_n 0, 1) := by decide +kernel
theorem dX6_cut_73 : decode cX6_cut 73 = .ok (.getfield 94, 3) := by decide +kernel
theorem dX6_cut_76 : decode cX6_cut 76 = .ok (.iload 6, 2) := by decide +kernel
theorem dX6_cut_78 : decode cX6_cut 78 = .ok (.isub, 1) := by decide +kernel
theorem dX6_cut_79 : decode cX6_cut 79 = .ok (.iload 4, 2) := by decide +kernel
theorem dX6_cut_81 : decode cX6_cut 81 = .ok (.isub, 1) := by decide +kernel
theorem dX6_cut_82 : decode cX6_cut 82 = .ok (.istore 8, 2) := by decide +kernel
theorem dX6_cut_84 : decode cX6_cut 84 = .ok (.iload 5, 2) := by decide +kernel
theorem dX6_cut_86 : decode cX6_cut 86 = .ok (.iload_n 2, 1) := by decide +kernel
theorem dX6_cut_87 : decode cX6_cut 87 = .ok (.if_icmp .ne 14, 3) := by decide +kernel
theorem dX6_cut_90 : decode cX6_cut 90 = .ok (.aload_n 0, 1) := by decide +kernel
theorem dX6_cut_91 : decode cX6_cut 91 = .ok (.iconst 3, 1) := by decide +kernel
theorem dX6_cut_92 : decode cX6_cut 92 = .ok (.iconst 0, 1) := by decide +kernel
theorem dX6_cut_93 : decode cX6_cut 93 = .ok (.iconst 0, 1) := by decide +kernel
theorem dX6_cut_94 : decode cX6_cut 94 = .ok (.invokevirtual 110, 3) := by decide +kernel
theorem dX6_cut_97 : decode cX6_cut 97 = .ok (.pop, 1) := by decide +kernel
theorem dX6_cut_98 : decode cX6_cut 98 = .ok (.goto 31, 3) := by decide +kernel
theorem dX6_cut_101 : decode cX6_cut 101 = .ok (.aload_n 0, 1) := by decide +kernel
theorem dX6_cut_102 : decode cX6_cut 102 = .ok (.iload 7, 2) := by decide +kernel
theorem dX6_cut_104 : decode cX6_cut 104 = .ok (.invokestatic 102, 3) := by decide +kernel
theorem dX6_cut_107 : decode cX6_cut 107 = .ok (.iload 8, 2) := by decide +kernel
theorem dX6_cut_109 : decode cX6_cut 109 = .ok (.iload 7, 2) := by decide +kernel
theorem dX6_cut_111 : decode cX6_cut 111 = .ok (.iconst 0, 1) := by decide +kernel
theorem dX6_cut_112 : decode cX6_cut 112 = .ok (.invokestatic 106, 3) := by decide +kernel
theorem dX6_cut_115 : decode cX6_cut 115 = .ok (.iadd, 1) := by decide +kernel
theorem dX6_cut_116 : decode cX6_cut 116 = .ok (.iload 8, 2) := by decide +kernel
theorem dX6_cut_118 : decode cX6_cut 118 = .ok (.iload 7, 2) := by decide +kernel
theorem dX6_cut_120 : decode cX6_cut 120 = .ok (.iconst 1, 1) := by decide +kernel
theorem dX6_cut_121 : decode cX6_cut 121 = .ok (.invokestatic 106, 3) := by decide +kernel
theorem dX6_cut_124 : decode cX6_cut 124 = .ok (.iadd, 1) := by decide +kernel
theorem dX6_cut_125 : decode cX6_cut 125 = .ok (.invokevirtual 110, 3) := by decide +kernel
theorem dX6_cut_128 : decode cX6_cut 128 = .ok (.pop, 1) := by decide +kernel
theorem dX6_cut_129 : decode cX6_cut 129 = .ok (.iinc 6 1, 3) := by decide +kernel
theorem dX6_cut_132 : decode cX6_cut 132 = .ok (.goto (-76), 3) := by decide +kernel
theorem dX6_cut_135 : decode cX6_cut 135 = .ok (.iinc 5 (-1), 3) := by decide +kernel
theorem dX6_cut_138 : decode cX6_cut 138 = .ok (.goto (-90), 3) := by decide +kernel
theorem dX6_cut_141 : decode cX6_cut 141 = .ok (.aload_n 0, 1) := by decide +kernel
theorem dX6_cut_142 : decode cX6_cut 142 = .ok (.aload_n 0, 1) := by decide +kernel
theorem dX6_cut_143 : decode cX6_cut 143 = .ok (.getfield 94, 3) := by decide +kernel
theorem dX6_cut_146 : decode cX6_cut 146 = .ok (.iload 4, 2) := by decide +kernel
theorem dX6_cut_148 : decode cX6_cut 148 = .ok (.isub, 1) := by decide +kernel
theorem dX6_cut_149 : decode cX6_cut 149 = .ok (.iload_n 3, 1) := by decide +kernel
theorem dX6_cut_150 : decode cX6_cut 150 = .ok (.invokevirtual 236, 3) := by decide +kernel
theorem dX6_cut_153 : decode cX6_cut 153 = .ok (.ireturn, 1) := by decide +kernel
theorem dX6_turn_0 : decode cX6_turn 0 = .ok (.aload_n 0, 1) := by decide +kernel
theorem dX6_turn_1 : decode cX6_turn 1 = .ok (.iload_n 1, 1) := by decide +kernel
theorem dX6_turn_2 : decode cX6_turn 2 = .ok (.invokevirtual 204, 3) := by decide +kernel
theorem dX6_turn_5 : decode cX6_turn 5 = .ok (.ifCond .eq 20, 3) := by decide +kernel
theorem dX6_turn_8 : decode cX6_turn 8 = .ok (.iload_n 2, 1) := by decide +kernel
theorem dX6_turn_9 : decode cX6_turn 9 = .ok (.iconst 5, 1) := by decide +kernel
theorem dX6_turn_10 : decode cX6_turn 10 = .ok (.bipush 6, 2) := by decide +kernel
theorem dX6_turn_12 : decode cX6_turn 12 = .ok (.invokestatic 86, 3) := by decide +kernel
theorem dX6_turn_15 : decode cX6_turn 15 = .ok (.ifCond .eq 10, 3) := by decide +kernel
theorem dX6_turn_18 : decode cX6_turn 18 = .ok (.iload_n 3, 1) := by decide +kernel
theorem dX6_turn_19 : decode cX6_turn 19 = .ok (.invokestatic 90, 3) := by decide +kernel
theorem dX6_turn_22 : decode cX6_turn 22 = .ok (.ifCond .ne 10, 3) := by decide +kernel
theorem dX6_turn_25 : decode cX6_turn 25 = .ok (.aload_n 0, 1) := by decide +kernel
theorem dX6_turn_26 : decode cX6_turn 26 = .ok (.bipush (-2), 2) := by decide +kernel
theorem dX6_turn_28 : decode cX6_turn 28 = .ok (.invokevirtual 138, 3) := by decide +kernel
theorem dX6_turn_31 : decode cX6_turn 31 = .ok (.ireturn, 1) := by decide +kernel
theorem dX6_turn_32 : decode cX6_turn 32 = .ok (.aload_n 0, 1) := by decide +kernel
theorem dX6_turn_33 : decode cX6_turn 33 = .ok (.iconst 0, 1) := by decide +kernel
theorem dX6_turn_34 : decode cX6_turn 34 = .ok (.putfield 94, 3) := by decide +kernel
theorem dX6_turn_37 : decode cX6_turn 37 = .ok (.aload_n 0, 1) := by decide +kernel
theorem dX6_turn_38 : decode cX6_turn 38 = .ok (.iload_n 1, 1) := by decide +kernel
theorem dX6_turn_39 : decode cX6_turn 39 = .ok (.invokevirtual 192, 3) := by decide +kernel
theorem dX6_turn_42 : decode cX6_turn 42 = .ok (.istore 4, 2) := by decide +kernel
theorem dX6_turn_44 : decode cX6_turn 44 = .ok (.iconst 0, 1) := by decide +kernel
theorem dX6_turn_45 : decode cX6_turn 45 = .ok (.istore 5, 2) := by decide +kernel
theorem dX6_turn_47 : decode cX6_turn 47 = .ok (.iload 5, 2) := by decide +kernel
theorem dX6_turn_49 : decode cX6_turn 49 = .ok (.aload_n 0, 1) := by decide +kernel
theorem dX6_turn_50 : decode cX6_turn 50 = .ok (.getfield 94, 3) := by decide +kernel
theorem dX6_turn_53 : decode cX6_turn 53 = .ok (.if_icmp .ge 55, 3) := by decide +kernel
theorem dX6_turn_56 : decode cX6_turn 56 = .ok (.aload_n 0, 1) := by decide +kernel
theorem dX6_turn_57 : decode cX6_turn 57 = .ok (.getfield 28, 3) := by decide +kernel
theorem dX6_turn_60 : decode cX6_turn 60 = .ok (.iload 5, 2) := by decide +kernel
theorem dX6_turn_62 : decode cX6_turn 62 = .ok (.iaload, 1) := by decide +kernel
theorem dX6_turn_63 : decode cX6_turn 63 = .ok (.istore 6, 2) := by decide +kernel
theorem dX6_turn_65 : decode cX6_turn 65 = .ok (.aload_n 0, 1) := by decide +kernel
theorem dX6_turn_66 : decode cX6_turn 66 = .ok (.getfield 28, 3) := by decide +kernel
theorem dX6_turn_69 : decode cX6_turn 69 = .ok (.iload 5, 2) := by decide +kernel
theorem dX6_turn_71 : decode cX6_turn 71 = .ok (.iload 6, 2) := by decide +kernel
theorem dX6_turn_73 : decode cX6_turn 73 = .ok (.invokestatic 102, 3) := by decide +kernel
theorem dX6_turn_76 : decode cX6_turn 76 = .ok (.iload_n 2, 1) := by decide +kernel
theorem dX6_turn_77 : decode cX6_turn 77 = .ok (.if_icmp .ne 22, 3) := by decide +kernel
theorem dX6_turn_80 : decode cX6_turn 80 = .ok (.iload_n 2, 1) := by decide +kernel
theorem dX6_turn_81 : decode cX6_turn 81 = .ok (.iload 6, 2) := by decide +kernel
theorem dX6_turn_83 : decode cX6_turn 83 = .ok (.iconst 1, 1) := by decide +kernel
theorem dX6_turn_84 : decode cX6_turn 84 = .ok (.invokestatic 106, 3) := by decide +kernel
theorem dX6_turn_87 : decode cX6_turn 87 = .ok (.iload 6, 2) := by decide +kernel
theorem dX6_turn_89 : decode cX6_turn 89 = .ok (.iconst 0, 1) := by decide +kernel
theorem dX6_turn_90 : decode cX6_turn 90 = .ok (.invokestatic 106, 3) := by decide +kernel
theorem dX6_turn_93 : decode cX6_turn 93 = .ok (.invokestatic 98, 3) := by decide +kernel
theorem dX6_turn_96 : decode cX6_turn 96 = .ok (.goto 5, 3) := by decide +kernel
theorem dX6_turn_99 : decode cX6_turn 99 = .ok (.iload 6, 2) := by decide +kernel
theorem dX6_turn_101 : decode cX6_turn 101 = .ok (.iastore, 1) := by decide +kernel
theorem dX6_turn_102 : decode cX6_turn 102 = .ok (.iinc 5 1, 3) := by decide +kernel
theorem dX6_turn_105 : decode cX6_turn 105 = .ok (.goto (-58), 3) := by decide +kernel
theorem dX6_turn_108 : decode cX6_turn 108 = .ok (.aload_n 0, 1) := by decide +kernel
theorem dX6_turn_109 : decode cX6_turn 109 = .ok (.iload 4, 2) := by decide +kernel
theorem dX6_turn_111 : decode cX6_turn 111 = .ok (.iload_n 3, 1) := by decide +kernel
theorem dX6_turn_112 : decode cX6_turn 112 = .ok (.invokevirtual 236, 3) := by decide +kernel
theorem dX6_turn_115 : decode cX6_turn 115 = .ok (.ireturn, 1) := by decide +kernel
theorem dX6_draw_0 : decode cX6_draw 0 = .ok (.iload_n 1, 1) := by decide +kernel
theorem dX6_draw_1 : decode cX6_draw 1 = .ok (.iconst 0, 1) := by decide +kernel
theorem dX6_draw_2 : decode cX6_draw 2 = .ok (.ldc 247, 2) := by decide +kernel
theorem dX6_draw_4 : decode cX6_draw 4 = .ok (.invokestatic 86, 3) := by decide +kernel
theorem dX6_draw_7 : decode cX6_draw 7 = .ok (.ifCond .eq 20, 3) := by decide +kernel
theorem dX6_draw_10 : decode cX6_draw 10 = .ok (.iload_n 2, 1) := by decide +kernel
theorem dX6_draw_11 : decode cX6_draw 11 = .ok (.iconst 1, 1) := by decide +kernel
theorem dX6_draw_12 : decode cX6_draw 12 = .ok (.bipush 12, 2) := by decide +kernel
theorem dX6_draw_14 : decode cX6_draw 14 = .ok (.invokestatic 86, 3) := by decide +kernel
theorem dX6_draw_17 : decode cX6_draw 17 = .ok (.ifCond .eq 10, 3) := by decide +kernel
theorem dX6_draw_20 : decode cX6_draw 20 = .ok (.iload_n 3, 1) := by decide +kernel
theorem dX6_draw_21 : decode cX6_draw 21 = .ok (.invokestatic 90, 3) := by decide +kernel
theorem dX6_draw_24 : decode cX6_draw 24 = .ok (.ifCond .ne 10, 3) := by decide +kernel
theorem dX6_draw_27 : decode cX6_draw 27 = .ok (.aload_n 0, 1) := by decide +kernel
theorem dX6_draw_28 : decode cX6_draw 28 = .ok (.bipush (-2), 2) := by decide +kernel
theorem dX6_draw_30 : decode cX6_draw 30 = .ok (.invokevirtual 138, 3) := by decide +kernel
theorem dX6_draw_33 : decode cX6_draw 33 = .ok (.ireturn, 1) := by decide +kernel
theorem dX6_draw_34 : decode cX6_draw 34 = .ok (.iload_n 1, 1) := by decide +kernel
theorem dX6_draw_35 : decode cX6_draw 35 = .ok (.i2l, 1) := by decide +kernel
theorem dX6_draw_36 : decode cX6_draw 36 = .ok (.lstore 4, 2) := by decide +kernel
theorem dX6_draw_38 : decode cX6_draw 38 = .ok (.aload_n 0, 1) := by decide +kernel
theorem dX6_draw_39 : decode cX6_draw 39 = .ok (.iconst 0, 1) := by decide +kernel
theorem dX6_draw_40 : decode cX6_draw 40 = .ok (.putfield 94, 3) := by decide +kernel
theorem dX6_draw_43 : decode cX6_draw 43 = .ok (.iconst 0, 1) := by decide +kernel
theorem dX6_draw_44 : decode cX6_draw 44 = .ok (.istore 6, 2) := by decide +kernel
theorem dX6_draw_46 : decode cX6_draw 46 = .ok (.iload 6, 2) := by decide +kernel
theorem dX6_draw_48 : decode cX6_draw 48 = .ok (.iload_n 2, 1) := by decide +kernel
theorem dX6_draw_49 : decode cX6_draw 49 = .ok (.if_icmp .ge 61, 3) := by decide +kernel
theorem dX6_draw_52 : decode cX6_draw 52 = .ok (.lload 4, 2) := by decide +kernel
theorem dX6_draw_54 : decode cX6_draw 54 = .ok (.ldc2_w 248, 3) := by decide +kernel
theorem dX6_draw_57 : decode cX6_draw 57 = .ok (.lmul, 1) := by decide +kernel
theorem dX6_draw_58 : decode cX6_draw 58 = .ok (.ldc2_w 250, 3) := by decide +kernel
theorem dX6_draw_61 : decode cX6_draw 61 = .ok (.ladd, 1) := by decide +kernel
theorem dX6_draw_62 : decode cX6_draw 62 = .ok (.ldc2_w 252, 3) := by decide +kernel
theorem dX6_draw_65 : decode cX6_draw 65 = .ok (.lrem, 1) := by decide +kernel
theorem dX6_draw_66 : decode cX6_draw 66 = .ok (.lstore 4, 2) := by decide +kernel
theorem dX6_draw_68 : decode cX6_draw 68 = .ok (.aload_n 0, 1) := by decide +kernel
theorem dX6_draw_69 : decode cX6_draw 69 = .ok (.lload 4, 2) := by decide +kernel
theorem dX6_draw_71 : decode cX6_draw 71 = .ok (.ldc2_w 254, 3) := by decide +kernel
theorem dX6_draw_74 : decode cX6_draw 74 = .ok (.ldiv, 1) := by decide +kernel
theorem dX6_draw_75 : decode cX6_draw 75 = .ok (.ldc2_w 256, 3) := by decide +kernel
theorem dX6_draw_78 : decode cX6_draw 78 = .ok (.lrem, 1) := by decide +kernel
theorem dX6_draw_79 : decode cX6_draw 79 = .ok (.l2i, 1) := by decide +kernel
theorem dX6_draw_80 : decode cX6_draw 80 = .ok (.lload 4, 2) := by decide +kernel
theorem dX6_draw_82 : decode cX6_draw 82 = .ok (.ldc2_w 258, 3) := by decide +kernel
theorem dX6_draw_85 : decode cX6_draw 85 = .ok (.ldiv, 1) := by decide +kernel
theorem dX6_draw_86 : decode cX6_draw 86 = .ok (.iload_n 2, 1) := by decide +kernel
theorem dX6_draw_87 : decode cX6_draw 87 = .ok (.i2l, 1) := by decide +kernel
theorem dX6_draw_88 : decode cX6_draw 88 = .ok (.lrem, 1) := by decide +kernel
theorem dX6_draw_89 : decode cX6_draw 89 = .ok (.l2i, 1) := by decide +kernel
theorem dX6_draw_90 : decode cX6_draw 90 = .ok (.lload 4, 2) := by decide +kernel
theorem dX6_draw_92 : decode cX6_draw 92 = .ok (.ldc2_w 260, 3) := by decide +kernel
theorem dX6_draw_95 : decode cX6_draw 95 = .ok (.ldiv, 1) := by decide +kernel
theorem dX6_draw_96 : decode cX6_draw 96 = .ok (.iload_n 2, 1) := by decide +kernel
theorem dX6_draw_97 : decode cX6_draw 97 = .ok (.i2l, 1) := by decide +kernel
theorem dX6_draw_98 : decode cX6_draw 98 = .ok (.lrem, 1) := by decide +kernel
theorem dX6_draw_99 : decode cX6_draw 99 = .ok (.l2i, 1) := by decide +kernel
theorem dX6_draw_100 : decode cX6_draw 100 = .ok (.invokevirtual 110, 3) := by decide +kernel
theorem dX6_draw_103 : decode cX6_draw 103 = .ok (.pop, 1) := by decide +kernel
theorem dX6_draw_104 : decode cX6_draw 104 = .ok (.iinc 6 1, 3) := by decide +kernel
theorem dX6_draw_107 : decode cX6_draw 107 = .ok (.goto (-61), 3) := by decide +kernel
theorem dX6_draw_110 : decode cX6_draw 110 = .ok (.aload_n 0, 1) := by decide +kernel
theorem dX6_draw_111 : decode cX6_draw 111 = .ok (.iconst 0, 1) := by decide +kernel
theorem dX6_draw_112 : decode cX6_draw 112 = .ok (.iload_n 3, 1) := by decide +kernel
theorem dX6_draw_113 : decode cX6_draw 113 = .ok (.invokevirtual 236, 3) := by decide +kernel
theorem dX6_draw_116 : decode cX6_draw 116 = .ok (.ireturn, 1) := by decide +kernel
theorem dX6_back_0 : decode cX6_back 0 = .ok (.aload_n 0, 1) := by decide +kernel
theorem dX6_back_1 : decode cX6_back 1 = .ok (.getfield 132, 3) := by decide +kernel
theorem dX6_back_4 : decode cX6_back 4 = .ok (.ifCond .ne 10, 3) := by decide +kernel
theorem dX6_back_7 : decode cX6_back 7 = .ok (.aload_n 0, 1) := by decide +kernel
theorem dX6_back_8 : decode cX6_back 8 = .ok (.bipush (-3), 2) := by decide +kernel
theorem dX6_back_10 : decode cX6_back 10 = .ok (.invokevirtual 138, 3) := by decide +kernel
theorem dX6_back_13 : decode cX6_back 13 = .ok (.ireturn, 1) := by decide +kernel
theorem dX6_back_14 : decode cX6_back 14 = .ok (.aload_n 0, 1) := by decide +kernel
theorem dX6_back_15 : decode cX6_back 15 = .ok (.dup, 1) := by decide +kernel
theorem dX6_back_16 : decode cX6_back 16 = .ok (.getfield 132, 3) := by decide +kernel
theorem dX6_back_19 : decode cX6_back 19 = .ok (.iconst 1, 1) := by decide +kernel
theorem dX6_back_20 : decode cX6_back 20 = .ok (.isub, 1) := by decide +kernel
theorem dX6_back_21 : decode cX6_back 21 = .ok (.putfield 132, 3) := by decide +kernel
theorem dX6_back_24 : decode cX6_back 24 = .ok (.iconst 0, 1) := by decide +kernel
theorem dX6_back_25 : decode cX6_back 25 = .ok (.istore_n 1, 1) := by decide +kernel
theorem dX6_back_26 : decode cX6_back 26 = .ok (.iload_n 1, 1) := by decide +kernel
theorem dX6_back_27 : decode cX6_back 27 = .ok (.sipush 320, 3) := by decide +kernel
theorem dX6_back_30 : decode cX6_back 30 = .ok (.if_icmp .ge 30, 3) := by decide +kernel
theorem dX6_back_33 : decode cX6_back 33 = .ok (.aload_n 0, 1) := by decide +kernel
theorem dX6_back_34 : decode cX6_back 34 = .ok (.getfield 13, 3) := by decide +kernel
theorem dX6_back_37 : decode cX6_back 37 = .ok (.iload_n 1, 1) := by decide +kernel
theorem dX6_back_38 : decode cX6_back 38 = .ok (.aload_n 0, 1) := by decide +kernel
theorem dX6_back_39 : decode cX6_back 39 = .ok (.getfield 16, 3) := by decide +kernel
theorem dX6_back_42 : decode cX6_back 42 = .ok (.sipush 320, 3) := by decide +kernel
theorem dX6_back_45 : decode cX6_back 45 = .ok (.aload_n 0, 1) := by decide +kernel
theorem dX6_back_46 : decode cX6_back 46 = .ok (.getfield 132, 3) := by decide +kernel
theorem dX6_back_49 : decode cX6_back 49 = .ok (.imul, 1) := by decide +kernel
theorem dX6_back_50 : decode cX6_back 50 = .ok (.iload_n 1, 1) := by decide +kernel
theorem dX6_back_51 : decode cX6_back 51 = .ok (.iadd, 1) := by decide +kernel
theorem dX6_back_52 : decode cX6_back 52 = .ok (.iaload, 1) := by decide +kernel
theorem dX6_back_53 : decode cX6_back 53 = .ok (.iastore, 1) := by decide +kernel
theorem dX6_back_54 : decode cX6_back 54 = .ok (.iinc 1 1, 3) := by decide +kernel
theorem dX6_back_57 : decode cX6_back 57 = .ok (.goto (-31), 3) := by decide +kernel
theorem dX6_back_60 : decode cX6_back 60 = .ok (.iconst 0, 1) := by decide +kernel
theorem dX6_back_61 : decode cX6_back 61 = .ok (.istore_n 1, 1) := by decide +kernel
theorem dX6_back_62 : decode cX6_back 62 = .ok (.iload_n 1, 1) := by decide +kernel
theorem dX6_back_63 : decode cX6_back 63 = .ok (.bipush 8, 2) := by decide +kernel
theorem dX6_back_65 : decode cX6_back 65 = .ok (.if_icmp .ge 29, 3) := by decide +kernel
theorem dX6_back_68 : decode cX6_back 68 = .ok (.aload_n 0, 1) := by decide +kernel
theorem dX6_back_69 : decode cX6_back 69 = .ok (.getfield 7, 3) := by decide +kernel
theorem dX6_back_72 : decode cX6_back 72 = .ok (.iload_n 1, 1) := by decide +kernel
theorem dX6_back_73 : decode cX6_back 73 = .ok (.aload_n 0, 1) := by decide +kernel
theorem dX6_back_74 : decode cX6_back 74 = .ok (.getfield 19, 3) := by decide +kernel
theorem dX6_back_77 : decode cX6_back 77 = .ok (.bipush 8, 2) := by decide +kernel
theorem dX6_back_79 : decode cX6_back 79 = .ok (.aload_n 0, 1) := by decide +kernel
theorem dX6_back_80 : decode cX6_back 80 = .ok (.getfield 132, 3) := by decide +kernel
theorem dX6_back_83 : decode cX6_back 83 = .ok (.imul, 1) := by decide +kernel
theorem dX6_back_84 : decode cX6_back 84 = .ok (.iload_n 1, 1) := by decide +kernel
theorem dX6_back_85 : decode cX6_back 85 = .ok (.iadd, 1) := by decide +kernel
theorem dX6_back_86 : decode cX6_back 86 = .ok (.iaload, 1) := by decide +kernel
theorem dX6_back_87 : decode cX6_back 87 = .ok (.iastore, 1) := by decide +kernel
theorem dX6_back_88 : decode cX6_back 88 = .ok (.iinc 1 1, 3) := by decide +kernel
theorem dX6_back_91 : decode cX6_back 91 = .ok (.goto (-29), 3) := by decide +kernel
theorem dX6_back_94 : decode cX6_back 94 = .ok (.aload_n 0, 1) := by decide +kernel
theorem dX6_back_95 : decode cX6_back 95 = .ok (.getfield 132, 3) := by decide +kernel
theorem dX6_back_98 : decode cX6_back 98 = .ok (.ireturn, 1) := by decide +kernel
theorem dX6_toldOf_0 : decode cX6_toldOf 0 = .ok (.iconst 0, 1) := by decide +kernel
theorem dX6_toldOf_1 : decode cX6_toldOf 1 = .ok (.istore_n 2, 1) := by decide +kernel
theorem dX6_toldOf_2 : decode cX6_toldOf 2 = .ok (.iload_n 1, 1) := by decide +kernel
theorem dX6_toldOf_3 : decode cX6_toldOf 3 = .ok (.tableswitch 59 0 5 #[37, 37, 37, 44, 49, 54], 37) := by decide +kernel
theorem dX6_toldOf_40 : decode cX6_toldOf 40 = .ok (.aload_n 0, 1) := by decide +kernel
theorem dX6_toldOf_41 : decode cX6_toldOf 41 = .ok (.getfield 22, 3) := by decide +kernel
theorem dX6_toldOf_44 : decode cX6_toldOf 44 = .ok (.iload_n 1, 1) := by decide +kernel
theorem dX6_toldOf_45 : decode cX6_toldOf 45 = .ok (.iaload, 1) := by decide +kernel
theorem dX6_toldOf_46 : decode cX6_toldOf 46 = .ok (.ireturn, 1) := by decide +kernel
theorem dX6_toldOf_47 : decode cX6_toldOf 47 = .ok (.aload_n 0, 1) := by decide +kernel
theorem dX6_toldOf_48 : decode cX6_toldOf 48 = .ok (.getfield 132, 3) := by decide +kernel
theorem dX6_toldOf_51 : decode cX6_toldOf 51 = .ok (.ireturn, 1) := by decide +kernel
theorem dX6_toldOf_52 : decode cX6_toldOf 52 = .ok (.aload_n 0, 1) := by decide +kernel
theorem dX6_toldOf_53 : decode cX6_toldOf 53 = .ok (.getfield 144, 3) := by decide +kernel
theorem dX6_toldOf_56 : decode cX6_toldOf 56 = .ok (.ireturn, 1) := by decide +kernel
theorem dX6_toldOf_57 : decode cX6_toldOf 57 = .ok (.aload_n 0, 1) := by decide +kernel
theorem dX6_toldOf_58 : decode cX6_toldOf 58 = .ok (.getfield 198, 3) := by decide +kernel
theorem dX6_toldOf_61 : decode cX6_toldOf 61 = .ok (.ireturn, 1) := by decide +kernel
theorem dX6_toldOf_62 : decode cX6_toldOf 62 = .ok (.iconst 0, 1) := by decide +kernel
theorem dX6_toldOf_63 : decode cX6_toldOf 63 = .ok (.istore_n 3, 1) := by decide +kernel
theorem dX6_toldOf_64 : decode cX6_toldOf 64 = .ok (.iload_n 3, 1) := by decide +kernel
theorem dX6_toldOf_65 : decode cX6_toldOf 65 = .ok (.bipush 8, 2) := by decide +kernel
theorem dX6_toldOf_67 : decode cX6_toldOf 67 = .ok (.if_icmp .ge 28, 3) := by decide +kernel
theorem dX6_toldOf_70 : decode cX6_toldOf 70 = .ok (.iload_n 2, 1) := by decide +kernel
theorem dX6_toldOf_71 : decode cX6_toldOf 71 = .ok (.aload_n 0, 1) := by decide +kernel
theorem dX6_toldOf_72 : decode cX6_toldOf 72 = .ok (.getfield 7, 3) := by decide +kernel
theorem dX6_toldOf_75 : decode cX6_toldOf 75 = .ok (.iload_n 3, 1) := by decide +kernel
theorem dX6_toldOf_76 : decode cX6_toldOf 76 = .ok (.iaload, 1) := by decide +kernel
theorem dX6_toldOf_77 : decode cX6_toldOf 77 = .ok (.ifCond .le 9, 3) := by decide +kernel
theorem dX6_toldOf_80 : decode cX6_toldOf 80 = .ok (.iconst 1, 1) := by decide +kernel
theorem dX6_toldOf_81 : decode cX6_toldOf 81 = .ok (.iload_n 3, 1) := by decide +kernel
theorem dX6_toldOf_82 : decode cX6_toldOf 82 = .ok (.ishl, 1) := by decide +kernel
theorem dX6_toldOf_83 : decode cX6_toldOf 83 = .ok (.goto 4, 3) := by decide +kernel
theorem dX6_toldOf_86 : decode cX6_toldOf 86 = .ok (.iconst 0, 1) := by decide +kernel
theorem dX6_toldOf_87 : decode cX6_toldOf 87 = .ok (.ior, 1) := by decide +kernel
theorem dX6_toldOf_88 : decode cX6_toldOf 88 = .ok (.istore_n 2, 1) := by decide +kernel
theorem dX6_toldOf_89 : decode cX6_toldOf 89 = .ok (.iinc 3 1, 3) := by decide +kernel
theorem dX6_toldOf_92 : decode cX6_toldOf 92 = .ok (.goto (-28), 3) := by decide +kernel
theorem dX6_toldOf_95 : decode cX6_toldOf 95 = .ok (.iload_n 2, 1) := by decide +kernel
theorem dX6_toldOf_96 : decode cX6_toldOf 96 = .ok (.ireturn, 1) := by decide +kernel
theorem dX6_told_0 : decode cX6_told 0 = .ok (.iload_n 1, 1) := by decide +kernel
theorem dX6_told_1 : decode cX6_told 1 = .ok (.iconst 0, 1) := by decide +kernel
theorem dX6_told_2 : decode cX6_told 2 = .ok (.bipush 6, 2) := by decide +kernel
theorem dX6_told_4 : decode cX6_told 4 = .ok (.invokestatic 86, 3) := by decide +kernel
theorem dX6_told_7 : decode cX6_told 7 = .ok (.ifCond .eq 11, 3) := by decide +kernel
theorem dX6_told_10 : decode cX6_told 10 = .ok (.aload_n 0, 1) := by decide +kernel
theorem dX6_told_11 : decode cX6_told 11 = .ok (.iload_n 1, 1) := by decide +kernel
theorem dX6_told_12 : decode cX6_told 12 = .ok (.invokevirtual 262, 3) := by decide +kernel
theorem dX6_told_15 : decode cX6_told 15 = .ok (.goto 9, 3) := by decide +kernel
theorem dX6_told_18 : decode cX6_told 18 = .ok (.aload_n 0, 1) := by decide +kernel
theorem dX6_told_19 : decode cX6_told 19 = .ok (.bipush (-2), 2) := by decide +kernel
theorem dX6_told_21 : decode cX6_told 21 = .ok (.invokevirtual 138, 3) := by decide +kernel
theorem dX6_told_24 : decode cX6_told 24 = .ok (.ireturn, 1) := by decide +kernel
theorem dX6_digest_0 : decode cX6_digest 0 = .ok (.ldc2_w 265, 3) := by decide +kernel
theorem dX6_digest_3 : decode cX6_digest 3 = .ok (.lstore_n 1, 1) := by decide +kernel
theorem dX6_digest_4 : decode cX6_digest 4 = .ok (.iconst 0, 1) := by decide +kernel
theorem dX6_digest_5 : decode cX6_digest 5 = .ok (.istore_n 3, 1) := by decide +kernel
theorem dX6_digest_6 : decode cX6_digest 6 = .ok (.iload_n 3, 1) := by decide +kernel
theorem dX6_digest_7 : decode cX6_digest 7 = .ok (.bipush 7, 2) := by decide +kernel
theorem dX6_digest_9 : decode cX6_digest 9 = .ok (.if_icmp .ge 22, 3) := by decide +kernel
theorem dX6_digest_12 : decode cX6_digest 12 = .ok (.ldc2_w 219, 3) := by decide +kernel
theorem dX6_digest_15 : decode cX6_digest 15 = .ok (.lload_n 1, 1) := by decide +kernel
theorem dX6_digest_16 : decode cX6_digest 16 = .ok (.lmul, 1) := by decide +kernel
theorem dX6_digest_17 : decode cX6_digest 17 = .ok (.aload_n 0, 1) := by decide +kernel
theorem dX6_digest_18 : decode cX6_digest 18 = .ok (.iload_n 3, 1) := by decide +kernel
theorem dX6_digest_19 : decode cX6_digest 19 = .ok (.invokevirtual 262, 3) := by decide +kernel
theorem dX6_digest_22 : decode cX6_digest 22 = .ok (.i2l, 1) := by decide +kernel
theorem dX6_digest_23 : decode cX6_digest 23 = .ok (.ladd, 1) := by decide +kernel
theorem dX6_digest_24 : decode cX6_digest 24 = .ok (.lstore_n 1, 1) := by decide +kernel
theorem dX6_digest_25 : decode cX6_digest 25 = .ok (.iinc 3 1, 3) := by decide +kernel
theorem dX6_digest_28 : decode cX6_digest 28 = .ok (.goto (-22), 3) := by decide +kernel
theorem dX6_digest_31 : decode cX6_digest 31 = .ok (.iconst 0, 1) := by decide +kernel
theorem dX6_digest_32 : decode cX6_digest 32 = .ok (.istore_n 3, 1) := by decide +kernel
theorem dX6_digest_33 : decode cX6_digest 33 = .ok (.iload_n 3, 1) := by decide +kernel
theorem dX6_digest_34 : decode cX6_digest 34 = .ok (.bipush 8, 2) := by decide +kernel
theorem dX6_digest_36 : decode cX6_digest 36 = .ok (.if_icmp .ge 34, 3) := by decide +kernel
theorem dX6_digest_39 : decode cX6_digest 39 = .ok (.ldc2_w 219, 3) := by decide +kernel
theorem dX6_digest_42 : decode cX6_digest 42 = .ok (.lload_n 1, 1) := by decide +kernel
theorem dX6_digest_43 : decode cX6_digest 43 = .ok (.lmul, 1) := by decide +kernel
theorem dX6_digest_44 : decode cX6_digest 44 = .ok (.aload_n 0, 1) := by decide +kernel
theorem dX6_digest_45 : decode cX6_digest 45 = .ok (.getfield 7, 3) := by decide +kernel
theorem dX6_digest_48 : decode cX6_digest 48 = .ok (.iload_n 3, 1) := by decide +kernel
theorem dX6_digest_49 : decode cX6_digest 49 = .ok (.iaload, 1) := by decide +kernel
theorem dX6_digest_50 : decode cX6_digest 50 = .ok (.ifCond .le 11, 3) := by decide +kernel
theorem dX6_digest_53 : decode cX6_digest 53 = .ok (.aload_n 0, 1) := by decide +kernel
theorem dX6_digest_54 : decode cX6_digest 54 = .ok (.iload_n 3, 1) := by decide +kernel
theorem dX6_digest_55 : decode cX6_digest 55 = .ok (.invokevirtual 221, 3) := by decide +kernel
theorem dX6_digest_58 : decode cX6_digest 58 = .ok (.goto 4, 3) := by decide +kernel
theorem dX6_digest_61 : decode cX6_digest 61 = .ok (.lconst 0, 1) := by decide +kernel
theorem dX6_digest_62 : decode cX6_digest 62 = .ok (.ladd, 1) := by decide +kernel
theorem dX6_digest_63 : decode cX6_digest 63 = .ok (.lstore_n 1, 1) := by decide +kernel
theorem dX6_digest_64 : decode cX6_digest 64 = .ok (.iinc 3 1, 3) := by decide +kernel
theorem dX6_digest_67 : decode cX6_digest 67 = .ok (.goto (-34), 3) := by decide +kernel
theorem dX6_digest_70 : decode cX6_digest 70 = .ok (.lload_n 1, 1) := by decide +kernel
theorem dX6_digest_71 : decode cX6_digest 71 = .ok (.lreturn, 1) := by decide +kernel
theorem dL_law_0 : decode cL_law 0 = .ok (.new 7, 3) := by decide +kernel
theorem dL_law_3 : decode cL_law 3 = .ok (.dup, 1) := by decide +kernel
theorem dL_law_4 : decode cL_law 4 = .ok (.invokespecial 9, 3) := by decide +kernel
theorem dL_law_7 : decode cL_law 7 = .ok (.astore_n 1, 1) := by decide +kernel
theorem dL_law_8 : decode cL_law 8 = .ok (.new 10, 3) := by decide +kernel
theorem dL_law_11 : decode cL_law 11 = .ok (.dup, 1) := by decide +kernel
theorem dL_law_12 : decode cL_law 12 = .ok (.invokespecial 12, 3) := by decide +kernel
theorem dL_law_15 : decode cL_law 15 = .ok (.astore_n 2, 1) := by decide +kernel
theorem dL_law_16 : decode cL_law 16 = .ok (.iconst 0, 1) := by decide +kernel
theorem dL_law_17 : decode cL_law 17 = .ok (.istore_n 3, 1) := by decide +kernel
theorem dL_law_18 : decode cL_law 18 = .ok (.iload_n 3, 1) := by decide +kernel
theorem dL_law_19 : decode cL_law 19 = .ok (.aload_n 0, 1) := by decide +kernel
theorem dL_law_20 : decode cL_law 20 = .ok (.arraylength, 1) := by decide +kernel
theorem dL_law_21 : decode cL_law 21 = .ok (.iconst 5, 1) := by decide +kernel
theorem dL_law_22 : decode cL_law 22 = .ok (.isub, 1) := by decide +kernel
theorem dL_law_23 : decode cL_law 23 = .ok (.if_icmp .gt 1147, 3) := by decide +kernel
theorem dL_law_26 : decode cL_law 26 = .ok (.aload_n 0, 1) := by decide +kernel
theorem dL_law_27 : decode cL_law 27 = .ok (.iload_n 3, 1) := by decide +kernel
theorem dL_law_28 : decode cL_law 28 = .ok (.iaload, 1) := by decide +kernel
theorem dL_law_29 : decode cL_law 29 = .ok (.bipush 31, 2) := by decide +kernel
theorem dL_law_31 : decode cL_law 31 = .ok (.iand, 1) := by decide +kernel
theorem dL_law_32 : decode cL_law 32 = .ok (.tableswitch 1132 0 31 #[144, 167, 180, 193, 216, 249, 282, 325, 368, 401, 434, 457, 480, 504, 527, 550, 583, 606, 629, 652, 685, 718, 771, 814, 847, 900, 953, 996, 1039, 1082, 1095, 1118], 144) := by decide +kernel
theorem dL_law_176 : decode cL_law 176 = .ok (.aload_n 1, 1) := by decide +kernel
theorem dL_law_177 : decode cL_law 177 = .ok (.aload_n 0, 1) := by decide +kernel
theorem dL_law_178 : decode cL_law 178 = .ok (.iload_n 3, 1) := by decide +kernel
theorem dL_law_179 : decode cL_law 179 = .ok (.iconst 1, 1) := by decide +kernel
theorem dL_law_180 : decode cL_law 180 = .ok (.iadd, 1) := by decide +kernel
theorem dL_law_181 : decode cL_law 181 = .ok (.iaload, 1) := by decide +kernel
theorem dL_law_182 : decode cL_law 182 = .ok (.invokevirtual 13, 3) := by decide +kernel
theorem dL_law_185 : decode cL_law 185 = .ok (.aload_n 2, 1) := by decide +kernel
theorem dL_law_186 : decode cL_law 186 = .ok (.aload_n 0, 1) := by decide +kernel
theorem dL_law_187 : decode cL_law 187 = .ok (.iload_n 3, 1) := by decide +kernel
theorem dL_law_188 : decode cL_law 188 = .ok (.iconst 1, 1) := by decide +kernel
theorem dL_law_189 : decode cL_law 189 = .ok (.iadd, 1) := by decide +kernel
theorem dL_law_190 : decode cL_law 190 = .ok (.iaload, 1) := by decide +kernel
theorem dL_law_191 : decode cL_law 191 = .ok (.invokevirtual 17, 3) := by decide +kernel
theorem dL_law_194 : decode cL_law 194 = .ok (.if_icmp .eq 970, 3) := by decide +kernel
theorem dL_law_197 : decode cL_law 197 = .ok (.iconst 0, 1) := by decide +kernel
theorem dL_law_198 : decode cL_law 198 = .ok (.ireturn, 1) := by decide +kernel
theorem dL_law_199 : decode cL_law 199 = .ok (.aload_n 1, 1) := by decide +kernel
theorem dL_law_200 : decode cL_law 200 = .ok (.invokevirtual 18, 3) := by decide +kernel
theorem dL_law_203 : decode cL_law 203 = .ok (.aload_n 2, 1) := by decide +kernel
theorem dL_law_204 : decode cL_law 204 = .ok (.invokevirtual 22, 3) := by decide +kernel
theorem dL_law_207 : decode cL_law 207 = .ok (.if_icmp .eq 957, 3) := by decide +kernel
theorem dL_law_210 : decode cL_law 210 = .ok (.iconst 0, 1) := by decide +kernel
theorem dL_law_211 : decode cL_law 211 = .ok (.ireturn, 1) := by decide +kernel
theorem dL_law_212 : decode cL_law 212 = .ok (.aload_n 1, 1) := by decide +kernel
theorem dL_law_213 : decode cL_law 213 = .ok (.invokevirtual 23, 3) := by decide +kernel
theorem dL_law_216 : decode cL_law 216 = .ok (.aload_n 2, 1) := by decide +kernel
theorem dL_law_217 : decode cL_law 217 = .ok (.invokevirtual 26, 3) := by decide +kernel
theorem dL_law_220 : decode cL_law 220 = .ok (.if_icmp .eq 944, 3) := by decide +kernel
theorem dL_law_223 : decode cL_law 223 = .ok (.iconst 0, 1) := by decide +kernel
theorem dL_law_224 : decode cL_law 224 = .ok (.ireturn, 1) := by decide +kernel
theorem dL_law_225 : decode cL_law 225 = .ok (.aload_n 1, 1) := by decide +kernel
theorem dL_law_226 : decode cL_law 226 = .ok (.aload_n 0, 1) := by decide +kernel
theorem dL_law_227 : decode cL_law 227 = .ok (.iload_n 3, 1) := by decide +kernel
theorem dL_law_228 : decode cL_law 228 = .ok (.iconst 1, 1) := by decide +kernel
theorem dL_law_229 : decode cL_law 229 = .ok (.iadd, 1) := by decide +kernel
theorem dL_law_230 : decode cL_law 230 = .ok (.iaload, 1) := by decide +kernel
theorem dL_law_231 : decode cL_law 231 = .ok (.invokevirtual 27, 3) := by decide +kernel
theorem dL_law_234 : decode cL_law 234 = .ok (.aload_n 2, 1) := by decide +kernel
theorem dL_law_235 : decode cL_law 235 = .ok (.aload_n 0, 1) := by decide +kernel
theorem dL_law_236 : decode cL_law 236 = .ok (.iload_n 3, 1) := by decide +kernel
theorem dL_law_237 : decode cL_law 237 = .ok (.iconst 1, 1) := by decide +kernel
theorem dL_law_238 : decode cL_law 238 = .ok (.iadd, 1) := by decide +kernel
theorem dL_law_239 : decode cL_law 239 = .ok (.iaload, 1) := by decide +kernel
theorem dL_law_240 : decode cL_law 240 = .ok (.invokevirtual 30, 3) := by decide +kernel
theorem dL_law_243 : decode cL_law 243 = .ok (.if_icmp .eq 921, 3) := by decide +kernel
theorem dL_law_246 : decode cL_law 246 = .ok (.iconst 0, 1) := by decide +kernel
theorem dL_law_247 : decode cL_law 247 = .ok (.ireturn, 1) := by decide +kernel
theorem dL_law_248 : decode cL_law 248 = .ok (.aload_n 1, 1) := by decide +kernel
theorem dL_law_249 : decode cL_law 249 = .ok (.aload_n 0, 1) := by decide +kernel
theorem dL_law_250 : decode cL_law 250 = .ok (.iload_n 3, 1) := by decide +kernel
theorem dL_law_251 : decode cL_law 251 = .ok (.iconst 1, 1) := by decide +kernel
theorem dL_law_252 : decode cL_law 252 = .ok (.iadd, 1) := by decide +kernel
theorem dL_law_253 : decode cL_law 253 = .ok (.iaload, 1) := by decide +kernel
theorem dL_law_254 : decode cL_law 254 = .ok (.aload_n 0, 1) := by decide +kernel
theorem dL_law_255 : decode cL_law 255 = .ok (.iload_n 3, 1) := by decide +kernel
theorem dL_law_256 : decode cL_law 256 = .ok (.iconst 2, 1) := by decide +kernel
theorem dL_law_257 : decode cL_law 257 = .ok (.iadd, 1) := by decide +kernel
theorem dL_law_258 : decode cL_law 258 = .ok (.iaload, 1) := by decide +kernel
theorem dL_law_259 : decode cL_law 259 = .ok (.invokevirtual 31, 3) := by decide +kernel
theorem dL_law_262 : decode cL_law 262 = .ok (.aload_n 2, 1) := by decide +kernel
theorem dL_law_263 : decode cL_law 263 = .ok (.aload_n 0, 1) := by decide +kernel
theorem dL_law_264 : decode cL_law 264 = .ok (.iload_n 3, 1) := by decide +kernel
theorem dL_law_265 : decode cL_law 265 = .ok (.iconst 1, 1) := by decide +kernel
theorem dL_law_266 : decode cL_law 266 = .ok (.iadd, 1) := by decide +kernel
theorem dL_law_267 : decode cL_law 267 = .ok (.iaload, 1) := by decide +kernel
theorem dL_law_268 : decode cL_law 268 = .ok (.aload_n 0, 1) := by decide +kernel
theorem dL_law_269 : decode cL_law 269 = .ok (.iload_n 3, 1) := by decide +kernel
theorem dL_law_270 : decode cL_law 270 = .ok (.iconst 2, 1) := by decide +kernel
theorem dL_law_271 : decode cL_law 271 = .ok (.iadd, 1) := by decide +kernel
theorem dL_law_272 : decode cL_law 272 = .ok (.iaload, 1) := by decide +kernel
theorem dL_law_273 : decode cL_law 273 = .ok (.invokevirtual 35, 3) := by decide +kernel
theorem dL_law_276 : decode cL_law 276 = .ok (.if_icmp .eq 888, 3) := by decide +kernel
theorem dL_law_279 : decode cL_law 279 = .ok (.iconst 0, 1) := by decide +kernel
theorem dL_law_280 : decode cL_law 280 = .ok (.ireturn, 1) := by decide +kernel
theorem dL_law_281 : decode cL_law 281 = .ok (.aload_n 1, 1) := by decide +kernel
theorem dL_law_282 : decode cL_law 282 = .ok (.aload_n 0, 1) := by decide +kernel
theorem dL_law_283 : decode cL_law 283 = .ok (.iload_n 3, 1) := by decide +kernel
theorem dL_law_284 : decode cL_law 284 = .ok (.iconst 1, 1) := by decide +kernel
theorem dL_law_285 : decode cL_law 285 = .ok (.iadd, 1) := by decide +kernel
theorem dL_law_286 : decode cL_law 286 = .ok (.iaload, 1) := by decide +kernel
theorem dL_law_287 : decode cL_law 287 = .ok (.aload_n 0, 1) := by decide +kernel
theorem dL_law_288 : decode cL_law 288 = .ok (.iload_n 3, 1) := by decide +kernel
theorem dL_law_289 : decode cL_law 289 = .ok (.iconst 2, 1) := by decide +kernel
theorem dL_law_290 : decode cL_law 290 = .ok (.iadd, 1) := by decide +kernel
theorem dL_law_291 : decode cL_law 291 = .ok (.iaload, 1) := by decide +kernel
theorem dL_law_292 : decode cL_law 292 = .ok (.invokevirtual 36, 3) := by decide +kernel
theorem dL_law_295 : decode cL_law 295 = .ok (.aload_n 2, 1) := by decide +kernel
theorem dL_law_296 : decode cL_law 296 = .ok (.aload_n 0, 1) := by decide +kernel
theorem dL_law_297 : decode cL_law 297 = .ok (.iload_n 3, 1) := by decide +kernel
theorem dL_law_298 : decode cL_law 298 = .ok (.iconst 1, 1) := by decide +kernel
theorem dL_law_299 : decode cL_law 299 = .ok (.iadd, 1) := by decide +kernel
theorem dL_law_300 : decode cL_law 300 = .ok (.iaload, 1) := by decide +kernel
theorem dL_law_301 : decode cL_law 301 = .ok (.aload_n 0, 1) := by decide +kernel
theorem dL_law_302 : decode cL_law 302 = .ok (.iload_n 3, 1) := by decide +kernel
theorem dL_law_303 : decode cL_law 303 = .ok (.iconst 2, 1) := by decide +kernel
theorem dL_law_304 : decode cL_law 304 = .ok (.iadd, 1) := by decide +kernel
theorem dL_law_305 : decode cL_law 305 = .ok (.iaload, 1) := by decide +kernel
theorem dL_law_306 : decode cL_law 306 = .ok (.invokevirtual 39, 3) := by decide +kernel
theorem dL_law_309 : decode cL_law 309 = .ok (.if_icmp .eq 855, 3) := by decide +kernel
theorem dL_law_312 : decode cL_law 312 = .ok (.iconst 0, 1) := by decide +kernel
theorem dL_law_313 : decode cL_law 313 = .ok (.ireturn, 1) := by decide +kernel
theorem dL_law_314 : decode cL_law 314 = .ok (.aload_n 1, 1) := by decide +kernel
theorem dL_law_315 : decode cL_law 315 = .ok (.aload_n 0, 1) := by decide +kernel
theorem dL_law_316 : decode cL_law 316 = .ok (.iload_n 3, 1) := by decide +kernel
theorem dL_law_317 : decode cL_law 317 = .ok (.iconst 1, 1) := by decide +kernel
theorem dL_law_318 : decode cL_law 318 = .ok (.iadd, 1) := by decide +kernel
theorem dL_law_319 : decode cL_law 319 = .ok (.iaload, 1) := by decide +kernel
theorem dL_law_320 : decode cL_law 320 = .ok (.aload_n 0, 1) := by decide +kernel
theorem dL_law_321 : decode cL_law 321 = .ok (.iload_n 3, 1) := by decide +kernel
theorem dL_law_322 : decode cL_law 322 = .ok (.iconst 2, 1) := by decide +kernel
theorem dL_law_323 : decode cL_law 323 = .ok (.iadd, 1) := by decide +kernel
theorem dL_law_324 : decode cL_law 324 = .ok (.iaload, 1) := by decide +kernel
theorem dL_law_325 : decode cL_law 325 = .ok (.aload_n 0, 1) := by decide +kernel
theorem dL_law_326 : decode cL_law 326 = .ok (.iload_n 3, 1) := by decide +kernel
theorem dL_law_327 : decode cL_law 327 = .ok (.iconst 3, 1) := by decide +kernel
theorem dL_law_328 : decode cL_law 328 = .ok (.iadd, 1) := by decide +kernel
theorem dL_law_329 : decode cL_law 329 = .ok (.iaload, 1) := by decide +kernel
theorem dL_law_330 : decode cL_law 330 = .ok (.invokevirtual 40, 3) := by decide +kernel
theorem dL_law_333 : decode cL_law 333 = .ok (.aload_n 2, 1) := by decide +kernel
theorem dL_law_334 : decode cL_law 334 = .ok (.aload_n 0, 1) := by decide +kernel
theorem dL_law_335 : decode cL_law 335 = .ok (.iload_n 3, 1) := by decide +kernel
theorem dL_law_336 : decode cL_law 336 = .ok (.iconst 1, 1) := by decide +kernel
theorem dL_law_337 : decode cL_law 337 = .ok (.iadd, 1) := by decide +kernel
theorem dL_law_338 : decode cL_law 338 = .ok (.iaload, 1) := by decide +kernel
theorem dL_law_339 : decode cL_law 339 = .ok (.aload_n 0, 1) := by decide +kernel
theorem dL_law_340 : decode cL_law 340 = .ok (.iload_n 3, 1) := by decide +kernel
theorem dL_law_341 : decode cL_law 341 = .ok (.iconst 2, 1) := by decide +kernel
theorem dL_law_342 : decode cL_law 342 = .ok (.iadd, 1) := by decide +kernel
theorem dL_law_343 : decode cL_law 343 = .ok (.iaload, 1) := by decide +kernel
theorem dL_law_344 : decode cL_law 344 = .ok (.aload_n 0, 1) := by decide +kernel
theorem dL_law_345 : decode cL_law 345 = .ok (.iload_n 3, 1) := by decide +kernel
theorem dL_law_346 : decode cL_law 346 = .ok (.iconst 3, 1) := by decide +kernel
theorem dL_law_347 : decode cL_law 347 = .ok (.iadd, 1) := by decide +kernel
theorem dL_law_348 : decode cL_law 348 = .ok (.iaload, 1) := by decide +kernel
theorem dL_law_349 : decode cL_law 349 = .ok (.invokevirtual 44, 3) := by decide +kernel
theorem dL_law_352 : decode cL_law 352 = .ok (.if_icmp .eq 812, 3) := by decide +kernel
theorem dL_law_355 : decode cL_law 355 = .ok (.iconst 0, 1) := by decide +kernel
theorem dL_law_356 : decode cL_law 356 = .ok (.ireturn, 1) := by decide +kernel
theorem dL_law_357 : decode cL_law 357 = .ok (.aload_n 1, 1) := by decide +kernel
theorem dL_law_358 : decode cL_law 358 = .ok (.aload_n 0, 1) := by decide +kernel
theorem dL_law_359 : decode cL_law 359 = .ok (.iload_n 3, 1) := by decide +kernel
theorem dL_law_360 : decode cL_law 360 = .ok (.iconst 1, 1) := by decide +kernel
theorem dL_law_361 : decode cL_law 361 = .ok (.iadd, 1) := by decide +kernel
theorem dL_law_362 : decode cL_law 362 = .ok (.iaload, 1) := by decide +kernel
theorem dL_law_363 : decode cL_law 363 = .ok (.aload_n 0, 1) := by decide +kernel
theorem dL_law_364 : decode cL_law 364 = .ok (.iload_n 3, 1) := by decide +kernel
theorem dL_law_365 : decode cL_law 365 = .ok (.iconst 2, 1) := by decide +kernel
theorem dL_law_366 : decode cL_law 366 = .ok (.iadd, 1) := by decide +kernel
theorem dL_law_367 : decode cL_law 367 = .ok (.iaload, 1) := by decide +kernel
theorem dL_law_368 : decode cL_law 368 = .ok (.aload_n 0, 1) := by decide +kernel
theorem dL_law_369 : decode cL_law 369 = .ok (.iload_n 3, 1) := by decide +kernel
theorem dL_law_370 : decode cL_law 370 = .ok (.iconst 3, 1) := by decide +kernel
theorem dL_law_371 : decode cL_law 371 = .ok (.iadd, 1) := by decide +kernel
theorem dL_law_372 : decode cL_law 372 = .ok (.iaload, 1) := by decide +kernel
theorem dL_law_373 : decode cL_law 373 = .ok (.invokevirtual 45, 3) := by decide +kernel
theorem dL_law_376 : decode cL_law 376 = .ok (.aload_n 2, 1) := by decide +kernel
theorem dL_law_377 : decode cL_law 377 = .ok (.aload_n 0, 1) := by decide +kernel
theorem dL_law_378 : decode cL_law 378 = .ok (.iload_n 3, 1) := by decide +kernel
theorem dL_law_379 : decode cL_law 379 = .ok (.iconst 1, 1) := by decide +kernel
theorem dL_law_380 : decode cL_law 380 = .ok (.iadd, 1) := by decide +kernel
theorem dL_law_381 : decode cL_law 381 = .ok (.iaload, 1) := by decide +kernel
theorem dL_law_382 : decode cL_law 382 = .ok (.aload_n 0, 1) := by decide +kernel
theorem dL_law_383 : decode cL_law 383 = .ok (.iload_n 3, 1) := by decide +kernel
theorem dL_law_384 : decode cL_law 384 = .ok (.iconst 2, 1) := by decide +kernel
theorem dL_law_385 : decode cL_law 385 = .ok (.iadd, 1) := by decide +kernel
theorem dL_law_386 : decode cL_law 386 = .ok (.iaload, 1) := by decide +kernel
theorem dL_law_387 : decode cL_law 387 = .ok (.aload_n 0, 1) := by decide +kernel
theorem dL_law_388 : decode cL_law 388 = .ok (.iload_n 3, 1) := by decide +kernel
theorem dL_law_389 : decode cL_law 389 = .ok (.iconst 3, 1) := by decide +kernel
theorem dL_law_390 : decode cL_law 390 = .ok (.iadd, 1) := by decide +kernel
theorem dL_law_391 : decode cL_law 391 = .ok (.iaload, 1) := by decide +kernel
theorem dL_law_392 : decode cL_law 392 = .ok (.invokevirtual 48, 3) := by decide +kernel
theorem dL_law_395 : decode cL_law 395 = .ok (.if_icmp .eq 769, 3) := by decide +kernel
theorem dL_law_398 : decode cL_law 398 = .ok (.iconst 0, 1) := by decide +kernel
theorem dL_law_399 : decode cL_law 399 = .ok (.ireturn, 1) := by decide +kernel
theorem dL_law_400 : decode cL_law 400 = .ok (.aload_n 1, 1) := by decide +kernel
theorem dL_law_401 : decode cL_law 401 = .ok (.aload_n 0, 1) := by decide +kernel
theorem dL_law_402 : decode cL_law 402 = .ok (.iload_n 3, 1) := by decide +kernel
theorem dL_law_403 : decode cL_law 403 = .ok (.iconst 1, 1) := by decide +kernel
theorem dL_law_404 : decode cL_law 404 = .ok (.iadd, 1) := by decide +kernel
theorem dL_law_405 : decode cL_law 405 = .ok (.iaload, 1) := by decide +kernel
theorem dL_law_406 : decode cL_law 406 = .ok (.aload_n 0, 1) := by decide +kernel
theorem dL_law_407 : decode cL_law 407 = .ok (.iload_n 3, 1) := by decide +kernel
theorem dL_law_408 : decode cL_law 408 = .ok (.iconst 2, 1) := by decide +kernel
theorem dL_law_409 : decode cL_law 409 = .ok (.iadd, 1) := by decide +kernel
theorem dL_law_410 : decode cL_law 410 = .ok (.iaload, 1) := by decide +kernel
theorem dL_law_411 : decode cL_law 411 = .ok (.invokevirtual 49, 3) := by decide +kernel
theorem dL_law_414 : decode cL_law 414 = .ok (.aload_n 2, 1) := by decide +kernel
theorem dL_law_415 : decode cL_law 415 = .ok (.aload_n 0, 1) := by decide +kernel
theorem dL_law_416 : decode cL_law 416 = .ok (.iload_n 3, 1) := by decide +kernel
theorem dL_law_417 : decode cL_law 417 = .ok (.iconst 1, 1) := by decide +kernel
theorem dL_law_418 : decode cL_law 418 = .ok (.iadd, 1) := by decide +kernel
theorem dL_law_419 : decode cL_law 419 = .ok (.iaload, 1) := by decide +kernel
theorem dL_law_420 : decode cL_law 420 = .ok (.aload_n 0, 1) := by decide +kernel
theorem dL_law_421 : decode cL_law 421 = .ok (.iload_n 3, 1) := by decide +kernel
theorem dL_law_422 : decode cL_law 422 = .ok (.iconst 2, 1) := by decide +kernel
theorem dL_law_423 : decode cL_law 423 = .ok (.iadd, 1) := by decide +kernel
theorem dL_law_424 : decode cL_law 424 = .ok (.iaload, 1) := by decide +kernel
theorem dL_law_425 : decode cL_law 425 = .ok (.invokevirtual 52, 3) := by decide +kernel
theorem dL_law_428 : decode cL_law 428 = .ok (.if_icmp .eq 736, 3) := by decide +kernel
theorem dL_law_431 : decode cL_law 431 = .ok (.iconst 0, 1) := by decide +kernel
theorem dL_law_432 : decode cL_law 432 = .ok (.ireturn, 1) := by decide +kernel
theorem dL_law_433 : decode cL_law 433 = .ok (.aload_n 1, 1) := by decide +kernel
theorem dL_law_434 : decode cL_law 434 = .ok (.aload_n 0, 1) := by decide +kernel
theorem dL_law_435 : decode cL_law 435 = .ok (.iload_n 3, 1) := by decide +kernel
theorem dL_law_436 : decode cL_law 436 = .ok (.iconst 1, 1) := by decide +kernel
theorem dL_law_437 : decode cL_law 437 = .ok (.iadd, 1) := by decide +kernel
theorem dL_law_438 : decode cL_law 438 = .ok (.iaload, 1) := by decide +kernel
theorem dL_law_439 : decode cL_law 439 = .ok (.aload_n 0, 1) := by decide +kernel
theorem dL_law_440 : decode cL_law 440 = .ok (.iload_n 3, 1) := by decide +kernel
theorem dL_law_441 : decode cL_law 441 = .ok (.iconst 2, 1) := by decide +kernel
theorem dL_law_442 : decode cL_law 442 = .ok (.iadd, 1) := by decide +kernel
theorem dL_law_443 : decode cL_law 443 = .ok (.iaload, 1) := by decide +kernel
theorem dL_law_444 : decode cL_law 444 = .ok (.invokevirtual 53, 3) := by decide +kernel
theorem dL_law_447 : decode cL_law 447 = .ok (.aload_n 2, 1) := by decide +kernel
theorem dL_law_448 : decode cL_law 448 = .ok (.aload_n 0, 1) := by decide +kernel
theorem dL_law_449 : decode cL_law 449 = .ok (.iload_n 3, 1) := by decide +kernel
theorem dL_law_450 : decode cL_law 450 = .ok (.iconst 1, 1) := by decide +kernel
theorem dL_law_451 : decode cL_law 451 = .ok (.iadd, 1) := by decide +kernel
theorem dL_law_452 : decode cL_law 452 = .ok (.iaload, 1) := by decide +kernel
theorem dL_law_453 : decode cL_law 453 = .ok (.aload_n 0, 1) := by decide +kernel
theorem dL_law_454 : decode cL_law 454 = .ok (.iload_n 3, 1) := by decide +kernel
theorem dL_law_455 : decode cL_law 455 = .ok (.iconst 2, 1) := by decide +kernel
theorem dL_law_456 : decode cL_law 456 = .ok (.iadd, 1) := by decide +kernel
theorem dL_law_457 : decode cL_law 457 = .ok (.iaload, 1) := by decide +kernel
theorem dL_law_458 : decode cL_law 458 = .ok (.invokevirtual 56, 3) := by decide +kernel
theorem dL_law_461 : decode cL_law 461 = .ok (.if_icmp .eq 703, 3) := by decide +kernel
theorem dL_law_464 : decode cL_law 464 = .ok (.iconst 0, 1) := by decide +kernel
theorem dL_law_465 : decode cL_law 465 = .ok (.ireturn, 1) := by decide +kernel
theorem dL_law_466 : decode cL_law 466 = .ok (.aload_n 1, 1) := by decide +kernel
theorem dL_law_467 : decode cL_law 467 = .ok (.aload_n 0, 1) := by decide +kernel
theorem dL_law_468 : decode cL_law 468 = .ok (.iload_n 3, 1) := by decide +kernel
theorem dL_law_469 : decode cL_law 469 = .ok (.iconst 1, 1) := by decide +kernel
theorem dL_law_470 : decode cL_law 470 = .ok (.iadd, 1) := by decide +kernel
theorem dL_law_471 : decode cL_law 471 = .ok (.iaload, 1) := by decide +kernel
theorem dL_law_472 : decode cL_law 472 = .ok (.invokevirtual 57, 3) := by decide +kernel
theorem dL_law_475 : decode cL_law 475 = .ok (.aload_n 2, 1) := by decide +kernel
theorem dL_law_476 : decode cL_law 476 = .ok (.aload_n 0, 1) := by decide +kernel
theorem dL_law_477 : decode cL_law 477 = .ok (.iload_n 3, 1) := by decide +kernel
theorem dL_law_478 : decode cL_law 478 = .ok (.iconst 1, 1) := by decide +kernel
theorem dL_law_479 : decode cL_law 479 = .ok (.iadd, 1) := by decide +kernel
theorem dL_law_480 : decode cL_law 480 = .ok (.iaload, 1) := by decide +kernel
theorem dL_law_481 : decode cL_law 481 = .ok (.invokevirtual 60, 3) := by decide +kernel
theorem dL_law_484 : decode cL_law 484 = .ok (.if_icmp .eq 680, 3) := by decide +kernel
theorem dL_law_487 : decode cL_law 487 = .ok (.iconst 0, 1) := by decide +kernel
theorem dL_law_488 : decode cL_law 488 = .ok (.ireturn, 1) := by decide +kernel
theorem dL_law_489 : decode cL_law 489 = .ok (.aload_n 1, 1) := by decide +kernel
theorem dL_law_490 : decode cL_law 490 = .ok (.aload_n 0, 1) := by decide +kernel
theorem dL_law_491 : decode cL_law 491 = .ok (.iload_n 3, 1) := by decide +kernel
theorem dL_law_492 : decode cL_law 492 = .ok (.iconst 1, 1) := by decide +kernel
theorem dL_law_493 : decode cL_law 493 = .ok (.iadd, 1) := by decide +kernel
theorem dL_law_494 : decode cL_law 494 = .ok (.iaload, 1) := by decide +kernel
theorem dL_law_495 : decode cL_law 495 = .ok (.invokevirtual 61, 3) := by decide +kernel
theorem dL_law_498 : decode cL_law 498 = .ok (.aload_n 2, 1) := by decide +kernel
theorem dL_law_499 : decode cL_law 499 = .ok (.aload_n 0, 1) := by decide +kernel
theorem dL_law_500 : decode cL_law 500 = .ok (.iload_n 3, 1) := by decide +kernel
theorem dL_law_501 : decode cL_law 501 = .ok (.iconst 1, 1) := by decide +kernel
theorem dL_law_502 : decode cL_law 502 = .ok (.iadd, 1) := by decide +kernel
theorem dL_law_503 : decode cL_law 503 = .ok (.iaload, 1) := by decide +kernel
theorem dL_law_504 : decode cL_law 504 = .ok (.invokevirtual 64, 3) := by decide +kernel
theorem dL_law_507 : decode cL_law 507 = .ok (.if_icmp .eq 657, 3) := by decide +kernel
theorem dL_law_510 : decode cL_law 510 = .ok (.iconst 0, 1) := by decide +kernel
theorem dL_law_511 : decode cL_law 511 = .ok (.ireturn, 1) := by decide +kernel
theorem dL_law_512 : decode cL_law 512 = .ok (.aload_n 1, 1) := by decide +kernel
theorem dL_law_513 : decode cL_law 513 = .ok (.aload_n 0, 1) := by decide +kernel
theorem dL_law_514 : decode cL_law 514 = .ok (.iload_n 3, 1) := by decide +kernel
theorem dL_law_515 : decode cL_law 515 = .ok (.iconst 1, 1) := by decide +kernel
theorem dL_law_516 : decode cL_law 516 = .ok (.iadd, 1) := by decide +kernel
theorem dL_law_517 : decode cL_law 517 = .ok (.iaload, 1) := by decide +kernel
theorem dL_law_518 : decode cL_law 518 = .ok (.invokevirtual 65, 3) := by decide +kernel
theorem dL_law_521 : decode cL_law 521 = .ok (.aload_n 2, 1) := by decide +kernel
theorem dL_law_522 : decode cL_law 522 = .ok (.aload_n 0, 1) := by decide +kernel
theorem dL_law_523 : decode cL_law 523 = .ok (.iload_n 3, 1) := by decide +kernel
theorem dL_law_524 : decode cL_law 524 = .ok (.iconst 1, 1) := by decide +kernel
theorem dL_law_525 : decode cL_law 525 = .ok (.iadd, 1) := by decide +kernel
theorem dL_law_526 : decode cL_law 526 = .ok (.iaload, 1) := by decide +kernel
theorem dL_law_527 : decode cL_law 527 = .ok (.invokevirtual 69, 3) := by decide +kernel
theorem dL_law_530 : decode cL_law 530 = .ok (.lcmp, 1) := by decide +kernel
theorem dL_law_531 : decode cL_law 531 = .ok (.ifCond .eq 633, 3) := by decide +kernel
theorem dL_law_534 : decode cL_law 534 = .ok (.iconst 0, 1) := by decide +kernel
theorem dL_law_535 : decode cL_law 535 = .ok (.ireturn, 1) := by decide +kernel
theorem dL_law_536 : decode cL_law 536 = .ok (.aload_n 1, 1) := by decide +kernel
theorem dL_law_537 : decode cL_law 537 = .ok (.aload_n 0, 1) := by decide +kernel
theorem dL_law_538 : decode cL_law 538 = .ok (.iload_n 3, 1) := by decide +kernel
theorem dL_law_539 : decode cL_law 539 = .ok (.iconst 1, 1) := by decide +kernel
theorem dL_law_540 : decode cL_law 540 = .ok (.iadd, 1) := by decide +kernel
theorem dL_law_541 : decode cL_law 541 = .ok (.iaload, 1) := by decide +kernel
theorem dL_law_542 : decode cL_law 542 = .ok (.invokevirtual 70, 3) := by decide +kernel
theorem dL_law_545 : decode cL_law 545 = .ok (.aload_n 2, 1) := by decide +kernel
theorem dL_law_546 : decode cL_law 546 = .ok (.aload_n 0, 1) := by decide +kernel
theorem dL_law_547 : decode cL_law 547 = .ok (.iload_n 3, 1) := by decide +kernel
theorem dL_law_548 : decode cL_law 548 = .ok (.iconst 1, 1) := by decide +kernel
theorem dL_law_549 : decode cL_law 549 = .ok (.iadd, 1) := by decide +kernel
theorem dL_law_550 : decode cL_law 550 = .ok (.iaload, 1) := by decide +kernel
theorem dL_law_551 : decode cL_law 551 = .ok (.invokevirtual 73, 3) := by decide +kernel
theorem dL_law_554 : decode cL_law 554 = .ok (.if_icmp .eq 610, 3) := by decide +kernel
theorem dL_law_557 : decode cL_law 557 = .ok (.iconst 0, 1) := by decide +kernel
theorem dL_law_558 : decode cL_law 558 = .ok (.ireturn, 1) := by decide +kernel
theorem dL_law_559 : decode cL_law 559 = .ok (.aload_n 1, 1) := by decide +kernel
theorem dL_law_560 : decode cL_law 560 = .ok (.aload_n 0, 1) := by decide +kernel
theorem dL_law_561 : decode cL_law 561 = .ok (.iload_n 3, 1) := by decide +kernel
theorem dL_law_562 : decode cL_law 562 = .ok (.iconst 1, 1) := by decide +kernel
theorem dL_law_563 : decode cL_law 563 = .ok (.iadd, 1) := by decide +kernel
theorem dL_law_564 : decode cL_law 564 = .ok (.iaload, 1) := by decide +kernel
theorem dL_law_565 : decode cL_law 565 = .ok (.invokevirtual 74, 3) := by decide +kernel
theorem dL_law_568 : decode cL_law 568 = .ok (.aload_n 2, 1) := by decide +kernel
theorem dL_law_569 : decode cL_law 569 = .ok (.aload_n 0, 1) := by decide +kernel
theorem dL_law_570 : decode cL_law 570 = .ok (.iload_n 3, 1) := by decide +kernel
theorem dL_law_571 : decode cL_law 571 = .ok (.iconst 1, 1) := by decide +kernel
theorem dL_law_572 : decode cL_law 572 = .ok (.iadd, 1) := by decide +kernel
theorem dL_law_573 : decode cL_law 573 = .ok (.iaload, 1) := by decide +kernel
theorem dL_law_574 : decode cL_law 574 = .ok (.invokevirtual 77, 3) := by decide +kernel
theorem dL_law_577 : decode cL_law 577 = .ok (.if_icmp .eq 587, 3) := by decide +kernel
theorem dL_law_580 : decode cL_law 580 = .ok (.iconst 0, 1) := by decide +kernel
theorem dL_law_581 : decode cL_law 581 = .ok (.ireturn, 1) := by decide +kernel
theorem dL_law_582 : decode cL_law 582 = .ok (.aload_n 1, 1) := by decide +kernel
theorem dL_law_583 : decode cL_law 583 = .ok (.aload_n 0, 1) := by decide +kernel
theorem dL_law_584 : decode cL_law 584 = .ok (.iload_n 3, 1) := by decide +kernel
theorem dL_law_585 : decode cL_law 585 = .ok (.iconst 1, 1) := by decide +kernel
theorem dL_law_586 : decode cL_law 586 = .ok (.iadd, 1) := by decide +kernel
theorem dL_law_587 : decode cL_law 587 = .ok (.iaload, 1) := by decide +kernel
theorem dL_law_588 : decode cL_law 588 = .ok (.aload_n 0, 1) := by decide +kernel
theorem dL_law_589 : decode cL_law 589 = .ok (.iload_n 3, 1) := by decide +kernel
theorem dL_law_590 : decode cL_law 590 = .ok (.iconst 2, 1) := by decide +kernel
theorem dL_law_591 : decode cL_law 591 = .ok (.iadd, 1) := by decide +kernel
theorem dL_law_592 : decode cL_law 592 = .ok (.iaload, 1) := by decide +kernel
theorem dL_law_593 : decode cL_law 593 = .ok (.invokevirtual 78, 3) := by decide +kernel
theorem dL_law_596 : decode cL_law 596 = .ok (.aload_n 2, 1) := by decide +kernel
theorem dL_law_597 : decode cL_law 597 = .ok (.aload_n 0, 1) := by decide +kernel
theorem dL_law_598 : decode cL_law 598 = .ok (.iload_n 3, 1) := by decide +kernel
theorem dL_law_599 : decode cL_law 599 = .ok (.iconst 1, 1) := by decide +kernel
theorem dL_law_600 : decode cL_law 600 = .ok (.iadd, 1) := by decide +kernel
theorem dL_law_601 : decode cL_law 601 = .ok (.iaload, 1) := by decide +kernel
theorem dL_law_602 : decode cL_law 602 = .ok (.aload_n 0, 1) := by decide +kernel
theorem dL_law_603 : decode cL_law 603 = .ok (.iload_n 3, 1) := by decide +kernel
theorem dL_law_604 : decode cL_law 604 = .ok (.iconst 2, 1) := by decide +kernel
theorem dL_law_605 : decode cL_law 605 = .ok (.iadd, 1) := by decide +kernel
theorem dL_law_606 : decode cL_law 606 = .ok (.iaload, 1) := by decide +kernel
theorem dL_law_607 : decode cL_law 607 = .ok (.invokevirtual 81, 3) := by decide +kernel
theorem dL_law_610 : decode cL_law 610 = .ok (.if_icmp .eq 554, 3) := by decide +kernel
theorem dL_law_613 : decode cL_law 613 = .ok (.iconst 0, 1) := by decide +kernel
theorem dL_law_614 : decode cL_law 614 = .ok (.ireturn, 1) := by decide +kernel
theorem dL_law_615 : decode cL_law 615 = .ok (.aload_n 1, 1) := by decide +kernel
theorem dL_law_616 : decode cL_law 616 = .ok (.aload_n 0, 1) := by decide +kernel
theorem dL_law_617 : decode cL_law 617 = .ok (.iload_n 3, 1) := by decide +kernel
theorem dL_law_618 : decode cL_law 618 = .ok (.iconst 1, 1) := by decide +kernel
theorem dL_law_619 : decode cL_law 619 = .ok (.iadd, 1) := by decide +kernel
theorem dL_law_620 : decode cL_law 620 = .ok (.iaload, 1) := by decide +kernel
theorem dL_law_621 : decode cL_law 621 = .ok (.invokevirtual 82, 3) := by decide +kernel
theorem dL_law_624 : decode cL_law 624 = .ok (.aload_n 2, 1) := by decide +kernel
theorem dL_law_625 : decode cL_law 625 = .ok (.aload_n 0, 1) := by decide +kernel
theorem dL_law_626 : decode cL_law 626 = .ok (.iload_n 3, 1) := by decide +kernel
theorem dL_law_627 : decode cL_law 627 = .ok (.iconst 1, 1) := by decide +kernel
theorem dL_law_628 : decode cL_law 628 = .ok (.iadd, 1) := by decide +kernel
theorem dL_law_629 : decode cL_law 629 = .ok (.iaload, 1) := by decide +kernel
theorem dL_law_630 : decode cL_law 630 = .ok (.invokevirtual 85, 3) := by decide +kernel
theorem dL_law_633 : decode cL_law 633 = .ok (.if_icmp .eq 531, 3) := by decide +kernel
theorem dL_law_636 : decode cL_law 636 = .ok (.iconst 0, 1) := by decide +kernel
theorem dL_law_637 : decode cL_law 637 = .ok (.ireturn, 1) := by decide +kernel
theorem dL_law_638 : decode cL_law 638 = .ok (.aload_n 1, 1) := by decide +kernel
theorem dL_law_639 : decode cL_law 639 = .ok (.aload_n 0, 1) := by decide +kernel
theorem dL_law_640 : decode cL_law 640 = .ok (.iload_n 3, 1) := by decide +kernel
theorem dL_law_641 : decode cL_law 641 = .ok (.iconst 1, 1) := by decide +kernel
theorem dL_law_642 : decode cL_law 642 = .ok (.iadd, 1) := by decide +kernel
theorem dL_law_643 : decode cL_law 643 = .ok (.iaload, 1) := by decide +kernel
theorem dL_law_644 : decode cL_law 644 = .ok (.invokevirtual 86, 3) := by decide +kernel
theorem dL_law_647 : decode cL_law 647 = .ok (.aload_n 2, 1) := by decide +kernel
theorem dL_law_648 : decode cL_law 648 = .ok (.aload_n 0, 1) := by decide +kernel
theorem dL_law_649 : decode cL_law 649 = .ok (.iload_n 3, 1) := by decide +kernel
theorem dL_law_650 : decode cL_law 650 = .ok (.iconst 1, 1) := by decide +kernel
theorem dL_law_651 : decode cL_law 651 = .ok (.iadd, 1) := by decide +kernel
theorem dL_law_652 : decode cL_law 652 = .ok (.iaload, 1) := by decide +kernel
theorem dL_law_653 : decode cL_law 653 = .ok (.invokevirtual 89, 3) := by decide +kernel
theorem dL_law_656 : decode cL_law 656 = .ok (.if_icmp .eq 508, 3) := by decide +kernel
theorem dL_law_659 : decode cL_law 659 = .ok (.iconst 0, 1) := by decide +kernel
theorem dL_law_660 : decode cL_law 660 = .ok (.ireturn, 1) := by decide +kernel
theorem dL_law_661 : decode cL_law 661 = .ok (.aload_n 1, 1) := by decide +kernel
theorem dL_law_662 : decode cL_law 662 = .ok (.aload_n 0, 1) := by decide +kernel
theorem dL_law_663 : decode cL_law 663 = .ok (.iload_n 3, 1) := by decide +kernel
theorem dL_law_664 : decode cL_law 664 = .ok (.iconst 1, 1) := by decide +kernel
theorem dL_law_665 : decode cL_law 665 = .ok (.iadd, 1) := by decide +kernel
theorem dL_law_666 : decode cL_law 666 = .ok (.iaload, 1) := by decide +kernel
theorem dL_law_667 : decode cL_law 667 = .ok (.invokevirtual 90, 3) := by decide +kernel
theorem dL_law_670 : decode cL_law 670 = .ok (.aload_n 2, 1) := by decide +kernel
theorem dL_law_671 : decode cL_law 671 = .ok (.aload_n 0, 1) := by decide +kernel
theorem dL_law_672 : decode cL_law 672 = .ok (.iload_n 3, 1) := by decide +kernel
theorem dL_law_673 : decode cL_law 673 = .ok (.iconst 1, 1) := by decide +kernel
theorem dL_law_674 : decode cL_law 674 = .ok (.iadd, 1) := by decide +kernel
theorem dL_law_675 : decode cL_law 675 = .ok (.iaload, 1) := by decide +kernel
theorem dL_law_676 : decode cL_law 676 = .ok (.invokevirtual 93, 3) := by decide +kernel
theorem dL_law_679 : decode cL_law 679 = .ok (.if_icmp .eq 485, 3) := by decide +kernel
theorem dL_law_682 : decode cL_law 682 = .ok (.iconst 0, 1) := by decide +kernel
theorem dL_law_683 : decode cL_law 683 = .ok (.ireturn, 1) := by decide +kernel
theorem dL_law_684 : decode cL_law 684 = .ok (.aload_n 1, 1) := by decide +kernel
theorem dL_law_685 : decode cL_law 685 = .ok (.aload_n 0, 1) := by decide +kernel
theorem dL_law_686 : decode cL_law 686 = .ok (.iload_n 3, 1) := by decide +kernel
theorem dL_law_687 : decode cL_law 687 = .ok (.iconst 1, 1) := by decide +kernel
theorem dL_law_688 : decode cL_law 688 = .ok (.iadd, 1) := by decide +kernel
theorem dL_law_689 : decode cL_law 689 = .ok (.iaload, 1) := by decide +kernel
theorem dL_law_690 : decode cL_law 690 = .ok (.aload_n 0, 1) := by decide +kernel
theorem dL_law_691 : decode cL_law 691 = .ok (.iload_n 3, 1) := by decide +kernel
theorem dL_law_692 : decode cL_law 692 = .ok (.iconst 2, 1) := by decide +kernel
theorem dL_law_693 : decode cL_law 693 = .ok (.iadd, 1) := by decide +kernel
theorem dL_law_694 : decode cL_law 694 = .ok (.iaload, 1) := by decide +kernel
theorem dL_law_695 : decode cL_law 695 = .ok (.invokevirtual 94, 3) := by decide +kernel
theorem dL_law_698 : decode cL_law 698 = .ok (.aload_n 2, 1) := by decide +kernel
theorem dL_law_699 : decode cL_law 699 = .ok (.aload_n 0, 1) := by decide +kernel
theorem dL_law_700 : decode cL_law 700 = .ok (.iload_n 3, 1) := by decide +kernel
theorem dL_law_701 : decode cL_law 701 = .ok (.iconst 1, 1) := by decide +kernel
theorem dL_law_702 : decode cL_law 702 = .ok (.iadd, 1) := by decide +kernel
theorem dL_law_703 : decode cL_law 703 = .ok (.iaload, 1) := by decide +kernel
theorem dL_law_704 : decode cL_law 704 = .ok (.aload_n 0, 1) := by decide +kernel
theorem dL_law_705 : decode cL_law 705 = .ok (.iload_n 3, 1) := by decide +kernel
theorem dL_law_706 : decode cL_law 706 = .ok (.iconst 2, 1) := by decide +kernel
theorem dL_law_707 : decode cL_law 707 = .ok (.iadd, 1) := by decide +kernel
theorem dL_law_708 : decode cL_law 708 = .ok (.iaload, 1) := by decide +kernel
theorem dL_law_709 : decode cL_law 709 = .ok (.invokevirtual 97, 3) := by decide +kernel
theorem dL_law_712 : decode cL_law 712 = .ok (.if_icmp .eq 452, 3) := by decide +kernel
theorem dL_law_715 : decode cL_law 715 = .ok (.iconst 0, 1) := by decide +kernel
theorem dL_law_716 : decode cL_law 716 = .ok (.ireturn, 1) := by decide +kernel
theorem dL_law_717 : decode cL_law 717 = .ok (.aload_n 1, 1) := by decide +kernel
theorem dL_law_718 : decode cL_law 718 = .ok (.aload_n 0, 1) := by decide +kernel
theorem dL_law_719 : decode cL_law 719 = .ok (.iload_n 3, 1) := by decide +kernel
theorem dL_law_720 : decode cL_law 720 = .ok (.iconst 1, 1) := by decide +kernel
theorem dL_law_721 : decode cL_law 721 = .ok (.iadd, 1) := by decide +kernel
theorem dL_law_722 : decode cL_law 722 = .ok (.iaload, 1) := by decide +kernel
theorem dL_law_723 : decode cL_law 723 = .ok (.aload_n 0, 1) := by decide +kernel
theorem dL_law_724 : decode cL_law 724 = .ok (.iload_n 3, 1) := by decide +kernel
theorem dL_law_725 : decode cL_law 725 = .ok (.iconst 2, 1) := by decide +kernel
theorem dL_law_726 : decode cL_law 726 = .ok (.iadd, 1) := by decide +kernel
theorem dL_law_727 : decode cL_law 727 = .ok (.iaload, 1) := by decide +kernel
theorem dL_law_728 : decode cL_law 728 = .ok (.invokevirtual 98, 3) := by decide +kernel
theorem dL_law_731 : decode cL_law 731 = .ok (.aload_n 2, 1) := by decide +kernel
theorem dL_law_732 : decode cL_law 732 = .ok (.aload_n 0, 1) := by decide +kernel
theorem dL_law_733 : decode cL_law 733 = .ok (.iload_n 3, 1) := by decide +kernel
theorem dL_law_734 : decode cL_law 734 = .ok (.iconst 1, 1) := by decide +kernel
theorem dL_law_735 : decode cL_law 735 = .ok (.iadd, 1) := by decide +kernel
theorem dL_law_736 : decode cL_law 736 = .ok (.iaload, 1) := by decide +kernel
theorem dL_law_737 : decode cL_law 737 = .ok (.aload_n 0, 1) := by decide +kernel
theorem dL_law_738 : decode cL_law 738 = .ok (.iload_n 3, 1) := by decide +kernel
theorem dL_law_739 : decode cL_law 739 = .ok (.iconst 2, 1) := by decide +kernel
theorem dL_law_740 : decode cL_law 740 = .ok (.iadd, 1) := by decide +kernel
theorem dL_law_741 : decode cL_law 741 = .ok (.iaload, 1) := by decide +kernel
theorem dL_law_742 : decode cL_law 742 = .ok (.invokevirtual 101, 3) := by decide +kernel
theorem dL_law_745 : decode cL_law 745 = .ok (.if_icmp .eq 419, 3) := by decide +kernel
theorem dL_law_748 : decode cL_law 748 = .ok (.iconst 0, 1) := by decide +kernel
theorem dL_law_749 : decode cL_law 749 = .ok (.ireturn, 1) := by decide +kernel
theorem dL_law_750 : decode cL_law 750 = .ok (.aload_n 1, 1) := by decide +kernel
theorem dL_law_751 : decode cL_law 751 = .ok (.aload_n 0, 1) := by decide +kernel
theorem dL_law_752 : decode cL_law 752 = .ok (.iload_n 3, 1) := by decide +kernel
theorem dL_law_753 : decode cL_law 753 = .ok (.iconst 1, 1) := by decide +kernel
theorem dL_law_754 : decode cL_law 754 = .ok (.iadd, 1) := by decide +kernel
theorem dL_law_755 : decode cL_law 755 = .ok (.iaload, 1) := by decide +kernel
theorem dL_law_756 : decode cL_law 756 = .ok (.aload_n 0, 1) := by decide +kernel
theorem dL_law_757 : decode cL_law 757 = .ok (.iload_n 3, 1) := by decide +kernel
theorem dL_law_758 : decode cL_law 758 = .ok (.iconst 2, 1) := by decide +kernel
theorem dL_law_759 : decode cL_law 759 = .ok (.iadd, 1) := by decide +kernel
theorem dL_law_760 : decode cL_law 760 = .ok (.iaload, 1) := by decide +kernel
theorem dL_law_761 : decode cL_law 761 = .ok (.aload_n 0, 1) := by decide +kernel
theorem dL_law_762 : decode cL_law 762 = .ok (.iload_n 3, 1) := by decide +kernel
theorem dL_law_763 : decode cL_law 763 = .ok (.iconst 3, 1) := by decide +kernel
theorem dL_law_764 : decode cL_law 764 = .ok (.iadd, 1) := by decide +kernel
theorem dL_law_765 : decode cL_law 765 = .ok (.iaload, 1) := by decide +kernel
theorem dL_law_766 : decode cL_law 766 = .ok (.aload_n 0, 1) := by decide +kernel
theorem dL_law_767 : decode cL_law 767 = .ok (.iload_n 3, 1) := by decide +kernel
theorem dL_law_768 : decode cL_law 768 = .ok (.iconst 4, 1) := by decide +kernel
theorem dL_law_769 : decode cL_law 769 = .ok (.iadd, 1) := by decide +kernel
theorem dL_law_770 : decode cL_law 770 = .ok (.iaload, 1) := by decide +kernel
theorem dL_law_771 : decode cL_law 771 = .ok (.invokevirtual 102, 3) := by decide +kernel
theorem dL_law_774 : decode cL_law 774 = .ok (.aload_n 2, 1) := by decide +kernel
theorem dL_law_775 : decode cL_law 775 = .ok (.aload_n 0, 1) := by decide +kernel
theorem dL_law_776 : decode cL_law 776 = .ok (.iload_n 3, 1) := by decide +kernel
theorem dL_law_777 : decode cL_law 777 = .ok (.iconst 1, 1) := by decide +kernel
theorem dL_law_778 : decode cL_law 778 = .ok (.iadd, 1) := by decide +kernel
theorem dL_law_779 : decode cL_law 779 = .ok (.iaload, 1) := by decide +kernel
theorem dL_law_780 : decode cL_law 780 = .ok (.aload_n 0, 1) := by decide +kernel
theorem dL_law_781 : decode cL_law 781 = .ok (.iload_n 3, 1) := by decide +kernel
theorem dL_law_782 : decode cL_law 782 = .ok (.iconst 2, 1) := by decide +kernel
theorem dL_law_783 : decode cL_law 783 = .ok (.iadd, 1) := by decide +kernel
theorem dL_law_784 : decode cL_law 784 = .ok (.iaload, 1) := by decide +kernel
theorem dL_law_785 : decode cL_law 785 = .ok (.aload_n 0, 1) := by decide +kernel
theorem dL_law_786 : decode cL_law 786 = .ok (.iload_n 3, 1) := by decide +kernel
theorem dL_law_787 : decode cL_law 787 = .ok (.iconst 3, 1) := by decide +kernel
theorem dL_law_788 : decode cL_law 788 = .ok (.iadd, 1) := by decide +kernel
theorem dL_law_789 : decode cL_law 789 = .ok (.iaload, 1) := by decide +kernel
theorem dL_law_790 : decode cL_law 790 = .ok (.aload_n 0, 1) := by decide +kernel
theorem dL_law_791 : decode cL_law 791 = .ok (.iload_n 3, 1) := by decide +kernel
theorem dL_law_792 : decode cL_law 792 = .ok (.iconst 4, 1) := by decide +kernel
theorem dL_law_793 : decode cL_law 793 = .ok (.iadd, 1) := by decide +kernel
theorem dL_law_794 : decode cL_law 794 = .ok (.iaload, 1) := by decide +kernel
theorem dL_law_795 : decode cL_law 795 = .ok (.invokevirtual 106, 3) := by decide +kernel
theorem dL_law_798 : decode cL_law 798 = .ok (.if_icmp .eq 366, 3) := by decide +kernel
theorem dL_law_801 : decode cL_law 801 = .ok (.iconst 0, 1) := by decide +kernel
theorem dL_law_802 : decode cL_law 802 = .ok (.ireturn, 1) := by decide +kernel
theorem dL_law_803 : decode cL_law 803 = .ok (.aload_n 1, 1) := by decide +kernel
theorem dL_law_804 : decode cL_law 804 = .ok (.aload_n 0, 1) := by decide +kernel
theorem dL_law_805 : decode cL_law 805 = .ok (.iload_n 3, 1) := by decide +kernel
theorem dL_law_806 : decode cL_law 806 = .ok (.iconst 1, 1) := by decide +kernel
theorem dL_law_807 : decode cL_law 807 = .ok (.iadd, 1) := by decide +kernel
theorem dL_law_808 : decode cL_law 808 = .ok (.iaload, 1) := by decide +kernel
theorem dL_law_809 : decode cL_law 809 = .ok (.aload_n 0, 1) := by decide +kernel
theorem dL_law_810 : decode cL_law 810 = .ok (.iload_n 3, 1) := by decide +kernel
theorem dL_law_811 : decode cL_law 811 = .ok (.iconst 2, 1) := by decide +kernel
theorem dL_law_812 : decode cL_law 812 = .ok (.iadd, 1) := by decide +kernel
theorem dL_law_813 : decode cL_law 813 = .ok (.iaload, 1) := by decide +kernel
theorem dL_law_814 : decode cL_law 814 = .ok (.aload_n 0, 1) := by decide +kernel
theorem dL_law_815 : decode cL_law 815 = .ok (.iload_n 3, 1) := by decide +kernel
theorem dL_law_816 : decode cL_law 816 = .ok (.iconst 3, 1) := by decide +kernel
theorem dL_law_817 : decode cL_law 817 = .ok (.iadd, 1) := by decide +kernel
theorem dL_law_818 : decode cL_law 818 = .ok (.iaload, 1) := by decide +kernel
theorem dL_law_819 : decode cL_law 819 = .ok (.invokevirtual 107, 3) := by decide +kernel
theorem dL_law_822 : decode cL_law 822 = .ok (.aload_n 2, 1) := by decide +kernel
theorem dL_law_823 : decode cL_law 823 = .ok (.aload_n 0, 1) := by decide +kernel
theorem dL_law_824 : decode cL_law 824 = .ok (.iload_n 3, 1) := by decide +kernel
theorem dL_law_825 : decode cL_law 825 = .ok (.iconst 1, 1) := by decide +kernel
theorem dL_law_826 : decode cL_law 826 = .ok (.iadd, 1) := by decide +kernel
theorem dL_law_827 : decode cL_law 827 = .ok (.iaload, 1) := by decide +kernel
theorem dL_law_828 : decode cL_law 828 = .ok (.aload_n 0, 1) := by decide +kernel
theorem dL_law_829 : decode cL_law 829 = .ok (.iload_n 3, 1) := by decide +kernel
theorem dL_law_830 : decode cL_law 830 = .ok (.iconst 2, 1) := by decide +kernel
theorem dL_law_831 : decode cL_law 831 = .ok (.iadd, 1) := by decide +kernel
theorem dL_law_832 : decode cL_law 832 = .ok (.iaload, 1) := by decide +kernel
theorem dL_law_833 : decode cL_law 833 = .ok (.aload_n 0, 1) := by decide +kernel
theorem dL_law_834 : decode cL_law 834 = .ok (.iload_n 3, 1) := by decide +kernel
theorem dL_law_835 : decode cL_law 835 = .ok (.iconst 3, 1) := by decide +kernel
theorem dL_law_836 : decode cL_law 836 = .ok (.iadd, 1) := by decide +kernel
theorem dL_law_837 : decode cL_law 837 = .ok (.iaload, 1) := by decide +kernel
theorem dL_law_838 : decode cL_law 838 = .ok (.invokevirtual 110, 3) := by decide +kernel
theorem dL_law_841 : decode cL_law 841 = .ok (.if_icmp .eq 323, 3) := by decide +kernel
theorem dL_law_844 : decode cL_law 844 = .ok (.iconst 0, 1) := by decide +kernel
theorem dL_law_845 : decode cL_law 845 = .ok (.ireturn, 1) := by decide +kernel
theorem dL_law_846 : decode cL_law 846 = .ok (.aload_n 1, 1) := by decide +kernel
theorem dL_law_847 : decode cL_law 847 = .ok (.aload_n 0, 1) := by decide +kernel
theorem dL_law_848 : decode cL_law 848 = .ok (.iload_n 3, 1) := by decide +kernel
theorem dL_law_849 : decode cL_law 849 = .ok (.iconst 1, 1) := by decide +kernel
theorem dL_law_850 : decode cL_law 850 = .ok (.iadd, 1) := by decide +kernel
theorem dL_law_851 : decode cL_law 851 = .ok (.iaload, 1) := by decide +kernel
theorem dL_law_852 : decode cL_law 852 = .ok (.aload_n 0, 1) := by decide +kernel
theorem dL_law_853 : decode cL_law 853 = .ok (.iload_n 3, 1) := by decide +kernel
theorem dL_law_854 : decode cL_law 854 = .ok (.iconst 2, 1) := by decide +kernel
theorem dL_law_855 : decode cL_law 855 = .ok (.iadd, 1) := by decide +kernel
theorem dL_law_856 : decode cL_law 856 = .ok (.iaload, 1) := by decide +kernel
theorem dL_law_857 : decode cL_law 857 = .ok (.invokevirtual 111, 3) := by decide +kernel
theorem dL_law_860 : decode cL_law 860 = .ok (.aload_n 2, 1) := by decide +kernel
theorem dL_law_861 : decode cL_law 861 = .ok (.aload_n 0, 1) := by decide +kernel
theorem dL_law_862 : decode cL_law 862 = .ok (.iload_n 3, 1) := by decide +kernel
theorem dL_law_863 : decode cL_law 863 = .ok (.iconst 1, 1) := by decide +kernel
theorem dL_law_864 : decode cL_law 864 = .ok (.iadd, 1) := by decide +kernel
theorem dL_law_865 : decode cL_law 865 = .ok (.iaload, 1) := by decide +kernel
theorem dL_law_866 : decode cL_law 866 = .ok (.aload_n 0, 1) := by decide +kernel
theorem dL_law_867 : decode cL_law 867 = .ok (.iload_n 3, 1) := by decide +kernel
theorem dL_law_868 : decode cL_law 868 = .ok (.iconst 2, 1) := by decide +kernel
theorem dL_law_869 : decode cL_law 869 = .ok (.iadd, 1) := by decide +kernel
theorem dL_law_870 : decode cL_law 870 = .ok (.iaload, 1) := by decide +kernel
theorem dL_law_871 : decode cL_law 871 = .ok (.invokevirtual 114, 3) := by decide +kernel
theorem dL_law_874 : decode cL_law 874 = .ok (.if_icmp .eq 290, 3) := by decide +kernel
theorem dL_law_877 : decode cL_law 877 = .ok (.iconst 0, 1) := by decide +kernel
theorem dL_law_878 : decode cL_law 878 = .ok (.ireturn, 1) := by decide +kernel
theorem dL_law_879 : decode cL_law 879 = .ok (.aload_n 1, 1) := by decide +kernel
theorem dL_law_880 : decode cL_law 880 = .ok (.aload_n 0, 1) := by decide +kernel
theorem dL_law_881 : decode cL_law 881 = .ok (.iload_n 3, 1) := by decide +kernel
theorem dL_law_882 : decode cL_law 882 = .ok (.iconst 1, 1) := by decide +kernel
theorem dL_law_883 : decode cL_law 883 = .ok (.iadd, 1) := by decide +kernel
theorem dL_law_884 : decode cL_law 884 = .ok (.iaload, 1) := by decide +kernel
theorem dL_law_885 : decode cL_law 885 = .ok (.aload_n 0, 1) := by decide +kernel
theorem dL_law_886 : decode cL_law 886 = .ok (.iload_n 3, 1) := by decide +kernel
theorem dL_law_887 : decode cL_law 887 = .ok (.iconst 2, 1) := by decide +kernel
theorem dL_law_888 : decode cL_law 888 = .ok (.iadd, 1) := by decide +kernel
theorem dL_law_889 : decode cL_law 889 = .ok (.iaload, 1) := by decide +kernel
theorem dL_law_890 : decode cL_law 890 = .ok (.aload_n 0, 1) := by decide +kernel
theorem dL_law_891 : decode cL_law 891 = .ok (.iload_n 3, 1) := by decide +kernel
theorem dL_law_892 : decode cL_law 892 = .ok (.iconst 3, 1) := by decide +kernel
theorem dL_law_893 : decode cL_law 893 = .ok (.iadd, 1) := by decide +kernel
theorem dL_law_894 : decode cL_law 894 = .ok (.iaload, 1) := by decide +kernel
theorem dL_law_895 : decode cL_law 895 = .ok (.aload_n 0, 1) := by decide +kernel
theorem dL_law_896 : decode cL_law 896 = .ok (.iload_n 3, 1) := by decide +kernel
theorem dL_law_897 : decode cL_law 897 = .ok (.iconst 4, 1) := by decide +kernel
theorem dL_law_898 : decode cL_law 898 = .ok (.iadd, 1) := by decide +kernel
theorem dL_law_899 : decode cL_law 899 = .ok (.iaload, 1) := by decide +kernel
theorem dL_law_900 : decode cL_law 900 = .ok (.invokevirtual 115, 3) := by decide +kernel
theorem dL_law_903 : decode cL_law 903 = .ok (.aload_n 2, 1) := by decide +kernel
theorem dL_law_904 : decode cL_law 904 = .ok (.aload_n 0, 1) := by decide +kernel
theorem dL_law_905 : decode cL_law 905 = .ok (.iload_n 3, 1) := by decide +kernel
theorem dL_law_906 : decode cL_law 906 = .ok (.iconst 1, 1) := by decide +kernel
theorem dL_law_907 : decode cL_law 907 = .ok (.iadd, 1) := by decide +kernel
theorem dL_law_908 : decode cL_law 908 = .ok (.iaload, 1) := by decide +kernel
theorem dL_law_909 : decode cL_law 909 = .ok (.aload_n 0, 1) := by decide +kernel
theorem dL_law_910 : decode cL_law 910 = .ok (.iload_n 3, 1) := by decide +kernel
theorem dL_law_911 : decode cL_law 911 = .ok (.iconst 2, 1) := by decide +kernel
theorem dL_law_912 : decode cL_law 912 = .ok (.iadd, 1) := by decide +kernel
theorem dL_law_913 : decode cL_law 913 = .ok (.iaload, 1) := by decide +kernel
theorem dL_law_914 : decode cL_law 914 = .ok (.aload_n 0, 1) := by decide +kernel
theorem dL_law_915 : decode cL_law 915 = .ok (.iload_n 3, 1) := by decide +kernel
theorem dL_law_916 : decode cL_law 916 = .ok (.iconst 3, 1) := by decide +kernel
theorem dL_law_917 : decode cL_law 917 = .ok (.iadd, 1) := by decide +kernel
theorem dL_law_918 : decode cL_law 918 = .ok (.iaload, 1) := by decide +kernel
theorem dL_law_919 : decode cL_law 919 = .ok (.aload_n 0, 1) := by decide +kernel
theorem dL_law_920 : decode cL_law 920 = .ok (.iload_n 3, 1) := by decide +kernel
theorem dL_law_921 : decode cL_law 921 = .ok (.iconst 4, 1) := by decide +kernel
theorem dL_law_922 : decode cL_law 922 = .ok (.iadd, 1) := by decide +kernel
theorem dL_law_923 : decode cL_law 923 = .ok (.iaload, 1) := by decide +kernel
theorem dL_law_924 : decode cL_law 924 = .ok (.invokevirtual 118, 3) := by decide +kernel
theorem dL_law_927 : decode cL_law 927 = .ok (.if_icmp .eq 237, 3) := by decide +kernel
theorem dL_law_930 : decode cL_law 930 = .ok (.iconst 0, 1) := by decide +kernel
theorem dL_law_931 : decode cL_law 931 = .ok (.ireturn, 1) := by decide +kernel
theorem dL_law_932 : decode cL_law 932 = .ok (.aload_n 1, 1) := by decide +kernel
theorem dL_law_933 : decode cL_law 933 = .ok (.aload_n 0, 1) := by decide +kernel
theorem dL_law_934 : decode cL_law 934 = .ok (.iload_n 3, 1) := by decide +kernel
theorem dL_law_935 : decode cL_law 935 = .ok (.iconst 1, 1) := by decide +kernel
theorem dL_law_936 : decode cL_law 936 = .ok (.iadd, 1) := by decide +kernel
theorem dL_law_937 : decode cL_law 937 = .ok (.iaload, 1) := by decide +kernel
theorem dL_law_938 : decode cL_law 938 = .ok (.aload_n 0, 1) := by decide +kernel
theorem dL_law_939 : decode cL_law 939 = .ok (.iload_n 3, 1) := by decide +kernel
theorem dL_law_940 : decode cL_law 940 = .ok (.iconst 2, 1) := by decide +kernel
theorem dL_law_941 : decode cL_law 941 = .ok (.iadd, 1) := by decide +kernel
theorem dL_law_942 : decode cL_law 942 = .ok (.iaload, 1) := by decide +kernel
theorem dL_law_943 : decode cL_law 943 = .ok (.aload_n 0, 1) := by decide +kernel
theorem dL_law_944 : decode cL_law 944 = .ok (.iload_n 3, 1) := by decide +kernel
theorem dL_law_945 : decode cL_law 945 = .ok (.iconst 3, 1) := by decide +kernel
theorem dL_law_946 : decode cL_law 946 = .ok (.iadd, 1) := by decide +kernel
theorem dL_law_947 : decode cL_law 947 = .ok (.iaload, 1) := by decide +kernel
theorem dL_law_948 : decode cL_law 948 = .ok (.aload_n 0, 1) := by decide +kernel
theorem dL_law_949 : decode cL_law 949 = .ok (.iload_n 3, 1) := by decide +kernel
theorem dL_law_950 : decode cL_law 950 = .ok (.iconst 4, 1) := by decide +kernel
theorem dL_law_951 : decode cL_law 951 = .ok (.iadd, 1) := by decide +kernel
theorem dL_law_952 : decode cL_law 952 = .ok (.iaload, 1) := by decide +kernel
theorem dL_law_953 : decode cL_law 953 = .ok (.invokevirtual 119, 3) := by decide +kernel
theorem dL_law_956 : decode cL_law 956 = .ok (.aload_n 2, 1) := by decide +kernel
theorem dL_law_957 : decode cL_law 957 = .ok (.aload_n 0, 1) := by decide +kernel
theorem dL_law_958 : decode cL_law 958 = .ok (.iload_n 3, 1) := by decide +kernel
theorem dL_law_959 : decode cL_law 959 = .ok (.iconst 1, 1) := by decide +kernel
theorem dL_law_960 : decode cL_law 960 = .ok (.iadd, 1) := by decide +kernel
theorem dL_law_961 : decode cL_law 961 = .ok (.iaload, 1) := by decide +kernel
theorem dL_law_962 : decode cL_law 962 = .ok (.aload_n 0, 1) := by decide +kernel
theorem dL_law_963 : decode cL_law 963 = .ok (.iload_n 3, 1) := by decide +kernel
theorem dL_law_964 : decode cL_law 964 = .ok (.iconst 2, 1) := by decide +kernel
theorem dL_law_965 : decode cL_law 965 = .ok (.iadd, 1) := by decide +kernel
theorem dL_law_966 : decode cL_law 966 = .ok (.iaload, 1) := by decide +kernel
theorem dL_law_967 : decode cL_law 967 = .ok (.aload_n 0, 1) := by decide +kernel
theorem dL_law_968 : decode cL_law 968 = .ok (.iload_n 3, 1) := by decide +kernel
theorem dL_law_969 : decode cL_law 969 = .ok (.iconst 3, 1) := by decide +kernel
theorem dL_law_970 : decode cL_law 970 = .ok (.iadd, 1) := by decide +kernel
theorem dL_law_971 : decode cL_law 971 = .ok (.iaload, 1) := by decide +kernel
theorem dL_law_972 : decode cL_law 972 = .ok (.aload_n 0, 1) := by decide +kernel
theorem dL_law_973 : decode cL_law 973 = .ok (.iload_n 3, 1) := by decide +kernel
theorem dL_law_974 : decode cL_law 974 = .ok (.iconst 4, 1) := by decide +kernel
theorem dL_law_975 : decode cL_law 975 = .ok (.iadd, 1) := by decide +kernel
theorem dL_law_976 : decode cL_law 976 = .ok (.iaload, 1) := by decide +kernel
theorem dL_law_977 : decode cL_law 977 = .ok (.invokevirtual 122, 3) := by decide +kernel
theorem dL_law_980 : decode cL_law 980 = .ok (.if_icmp .eq 184, 3) := by decide +kernel
theorem dL_law_983 : decode cL_law 983 = .ok (.iconst 0, 1) := by decide +kernel
theorem dL_law_984 : decode cL_law 984 = .ok (.ireturn, 1) := by decide +kernel
theorem dL_law_985 : decode cL_law 985 = .ok (.aload_n 1, 1) := by decide +kernel
theorem dL_law_986 : decode cL_law 986 = .ok (.aload_n 0, 1) := by decide +kernel
theorem dL_law_987 : decode cL_law 987 = .ok (.iload_n 3, 1) := by decide +kernel
theorem dL_law_988 : decode cL_law 988 = .ok (.iconst 1, 1) := by decide +kernel
theorem dL_law_989 : decode cL_law 989 = .ok (.iadd, 1) := by decide +kernel
theorem dL_law_990 : decode cL_law 990 = .ok (.iaload, 1) := by decide +kernel
theorem dL_law_991 : decode cL_law 991 = .ok (.aload_n 0, 1) := by decide +kernel
theorem dL_law_992 : decode cL_law 992 = .ok (.iload_n 3, 1) := by decide +kernel
theorem dL_law_993 : decode cL_law 993 = .ok (.iconst 2, 1) := by decide +kernel
theorem dL_law_994 : decode cL_law 994 = .ok (.iadd, 1) := by decide +kernel
theorem dL_law_995 : decode cL_law 995 = .ok (.iaload, 1) := by decide +kernel
theorem dL_law_996 : decode cL_law 996 = .ok (.aload_n 0, 1) := by decide +kernel
theorem dL_law_997 : decode cL_law 997 = .ok (.iload_n 3, 1) := by decide +kernel
theorem dL_law_998 : decode cL_law 998 = .ok (.iconst 3, 1) := by decide +kernel
theorem dL_law_999 : decode cL_law 999 = .ok (.iadd, 1) := by decide +kernel
theorem dL_law_1000 : decode cL_law 1000 = .ok (.iaload, 1) := by decide +kernel
theorem dL_law_1001 : decode cL_law 1001 = .ok (.invokevirtual 123, 3) := by decide +kernel
theorem dL_law_1004 : decode cL_law 1004 = .ok (.aload_n 2, 1) := by decide +kernel
theorem dL_law_1005 : decode cL_law 1005 = .ok (.aload_n 0, 1) := by decide +kernel
theorem dL_law_1006 : decode cL_law 1006 = .ok (.iload_n 3, 1) := by decide +kernel
theorem dL_law_1007 : decode cL_law 1007 = .ok (.iconst 1, 1) := by decide +kernel
theorem dL_law_1008 : decode cL_law 1008 = .ok (.iadd, 1) := by decide +kernel
theorem dL_law_1009 : decode cL_law 1009 = .ok (.iaload, 1) := by decide +kernel
theorem dL_law_1010 : decode cL_law 1010 = .ok (.aload_n 0, 1) := by decide +kernel
theorem dL_law_1011 : decode cL_law 1011 = .ok (.iload_n 3, 1) := by decide +kernel
theorem dL_law_1012 : decode cL_law 1012 = .ok (.iconst 2, 1) := by decide +kernel
theorem dL_law_1013 : decode cL_law 1013 = .ok (.iadd, 1) := by decide +kernel
theorem dL_law_1014 : decode cL_law 1014 = .ok (.iaload, 1) := by decide +kernel
theorem dL_law_1015 : decode cL_law 1015 = .ok (.aload_n 0, 1) := by decide +kernel
theorem dL_law_1016 : decode cL_law 1016 = .ok (.iload_n 3, 1) := by decide +kernel
theorem dL_law_1017 : decode cL_law 1017 = .ok (.iconst 3, 1) := by decide +kernel
theorem dL_law_1018 : decode cL_law 1018 = .ok (.iadd, 1) := by decide +kernel
theorem dL_law_1019 : decode cL_law 1019 = .ok (.iaload, 1) := by decide +kernel
theorem dL_law_1020 : decode cL_law 1020 = .ok (.invokevirtual 126, 3) := by decide +kernel
theorem dL_law_1023 : decode cL_law 1023 = .ok (.if_icmp .eq 141, 3) := by decide +kernel
theorem dL_law_1026 : decode cL_law 1026 = .ok (.iconst 0, 1) := by decide +kernel
theorem dL_law_1027 : decode cL_law 1027 = .ok (.ireturn, 1) := by decide +kernel
theorem dL_law_1028 : decode cL_law 1028 = .ok (.aload_n 1, 1) := by decide +kernel
theorem dL_law_1029 : decode cL_law 1029 = .ok (.aload_n 0, 1) := by decide +kernel
theorem dL_law_1030 : decode cL_law 1030 = .ok (.iload_n 3, 1) := by decide +kernel
theorem dL_law_1031 : decode cL_law 1031 = .ok (.iconst 1, 1) := by decide +kernel
theorem dL_law_1032 : decode cL_law 1032 = .ok (.iadd, 1) := by decide +kernel
theorem dL_law_1033 : decode cL_law 1033 = .ok (.iaload, 1) := by decide +kernel
theorem dL_law_1034 : decode cL_law 1034 = .ok (.aload_n 0, 1) := by decide +kernel
theorem dL_law_1035 : decode cL_law 1035 = .ok (.iload_n 3, 1) := by decide +kernel
theorem dL_law_1036 : decode cL_law 1036 = .ok (.iconst 2, 1) := by decide +kernel
theorem dL_law_1037 : decode cL_law 1037 = .ok (.iadd, 1) := by decide +kernel
theorem dL_law_1038 : decode cL_law 1038 = .ok (.iaload, 1) := by decide +kernel
theorem dL_law_1039 : decode cL_law 1039 = .ok (.aload_n 0, 1) := by decide +kernel
theorem dL_law_1040 : decode cL_law 1040 = .ok (.iload_n 3, 1) := by decide +kernel
theorem dL_law_1041 : decode cL_law 1041 = .ok (.iconst 3, 1) := by decide +kernel
theorem dL_law_1042 : decode cL_law 1042 = .ok (.iadd, 1) := by decide +kernel
theorem dL_law_1043 : decode cL_law 1043 = .ok (.iaload, 1) := by decide +kernel
theorem dL_law_1044 : decode cL_law 1044 = .ok (.invokevirtual 127, 3) := by decide +kernel
theorem dL_law_1047 : decode cL_law 1047 = .ok (.aload_n 2, 1) := by decide +kernel
theorem dL_law_1048 : decode cL_law 1048 = .ok (.aload_n 0, 1) := by decide +kernel
theorem dL_law_1049 : decode cL_law 1049 = .ok (.iload_n 3, 1) := by decide +kernel
theorem dL_law_1050 : decode cL_law 1050 = .ok (.iconst 1, 1) := by decide +kernel
theorem dL_law_1051 : decode cL_law 1051 = .ok (.iadd, 1) := by decide +kernel
theorem dL_law_1052 : decode cL_law 1052 = .ok (.iaload, 1) := by decide +kernel
theorem dL_law_1053 : decode cL_law 1053 = .ok (.aload_n 0, 1) := by decide +kernel
theorem dL_law_1054 : decode cL_law 1054 = .ok (.iload_n 3, 1) := by decide +kernel
theorem dL_law_1055 : decode cL_law 1055 = .ok (.iconst 2, 1) := by decide +kernel
theorem dL_law_1056 : decode cL_law 1056 = .ok (.iadd, 1) := by decide +kernel
theorem dL_law_1057 : decode cL_law 1057 = .ok (.iaload, 1) := by decide +kernel
theorem dL_law_1058 : decode cL_law 1058 = .ok (.aload_n 0, 1) := by decide +kernel
theorem dL_law_1059 : decode cL_law 1059 = .ok (.iload_n 3, 1) := by decide +kernel
theorem dL_law_1060 : decode cL_law 1060 = .ok (.iconst 3, 1) := by decide +kernel
theorem dL_law_1061 : decode cL_law 1061 = .ok (.iadd, 1) := by decide +kernel
theorem dL_law_1062 : decode cL_law 1062 = .ok (.iaload, 1) := by decide +kernel
theorem dL_law_1063 : decode cL_law 1063 = .ok (.invokevirtual 130, 3) := by decide +kernel
theorem dL_law_1066 : decode cL_law 1066 = .ok (.if_icmp .eq 98, 3) := by decide +kernel
theorem dL_law_1069 : decode cL_law 1069 = .ok (.iconst 0, 1) := by decide +kernel
theorem dL_law_1070 : decode cL_law 1070 = .ok (.ireturn, 1) := by decide +kernel
theorem dL_law_1071 : decode cL_law 1071 = .ok (.aload_n 1, 1) := by decide +kernel
theorem dL_law_1072 : decode cL_law 1072 = .ok (.aload_n 0, 1) := by decide +kernel
theorem dL_law_1073 : decode cL_law 1073 = .ok (.iload_n 3, 1) := by decide +kernel
theorem dL_law_1074 : decode cL_law 1074 = .ok (.iconst 1, 1) := by decide +kernel
theorem dL_law_1075 : decode cL_law 1075 = .ok (.iadd, 1) := by decide +kernel
theorem dL_law_1076 : decode cL_law 1076 = .ok (.iaload, 1) := by decide +kernel
theorem dL_law_1077 : decode cL_law 1077 = .ok (.aload_n 0, 1) := by decide +kernel
theorem dL_law_1078 : decode cL_law 1078 = .ok (.iload_n 3, 1) := by decide +kernel
theorem dL_law_1079 : decode cL_law 1079 = .ok (.iconst 2, 1) := by decide +kernel
theorem dL_law_1080 : decode cL_law 1080 = .ok (.iadd, 1) := by decide +kernel
theorem dL_law_1081 : decode cL_law 1081 = .ok (.iaload, 1) := by decide +kernel
theorem dL_law_1082 : decode cL_law 1082 = .ok (.aload_n 0, 1) := by decide +kernel
theorem dL_law_1083 : decode cL_law 1083 = .ok (.iload_n 3, 1) := by decide +kernel
theorem dL_law_1084 : decode cL_law 1084 = .ok (.iconst 3, 1) := by decide +kernel
theorem dL_law_1085 : decode cL_law 1085 = .ok (.iadd, 1) := by decide +kernel
theorem dL_law_1086 : decode cL_law 1086 = .ok (.iaload, 1) := by decide +kernel
theorem dL_law_1087 : decode cL_law 1087 = .ok (.invokevirtual 131, 3) := by decide +kernel
theorem dL_law_1090 : decode cL_law 1090 = .ok (.aload_n 2, 1) := by decide +kernel
theorem dL_law_1091 : decode cL_law 1091 = .ok (.aload_n 0, 1) := by decide +kernel
theorem dL_law_1092 : decode cL_law 1092 = .ok (.iload_n 3, 1) := by decide +kernel
theorem dL_law_1093 : decode cL_law 1093 = .ok (.iconst 1, 1) := by decide +kernel
theorem dL_law_1094 : decode cL_law 1094 = .ok (.iadd, 1) := by decide +kernel
theorem dL_law_1095 : decode cL_law 1095 = .ok (.iaload, 1) := by decide +kernel
theorem dL_law_1096 : decode cL_law 1096 = .ok (.aload_n 0, 1) := by decide +kernel
theorem dL_law_1097 : decode cL_law 1097 = .ok (.iload_n 3, 1) := by decide +kernel
theorem dL_law_1098 : decode cL_law 1098 = .ok (.iconst 2, 1) := by decide +kernel
theorem dL_law_1099 : decode cL_law 1099 = .ok (.iadd, 1) := by decide +kernel
theorem dL_law_1100 : decode cL_law 1100 = .ok (.iaload, 1) := by decide +kernel
theorem dL_law_1101 : decode cL_law 1101 = .ok (.aload_n 0, 1) := by decide +kernel
theorem dL_law_1102 : decode cL_law 1102 = .ok (.iload_n 3, 1) := by decide +kernel
theorem dL_law_1103 : decode cL_law 1103 = .ok (.iconst 3, 1) := by decide +kernel
theorem dL_law_1104 : decode cL_law 1104 = .ok (.iadd, 1) := by decide +kernel
theorem dL_law_1105 : decode cL_law 1105 = .ok (.iaload, 1) := by decide +kernel
theorem dL_law_1106 : decode cL_law 1106 = .ok (.invokevirtual 134, 3) := by decide +kernel
theorem dL_law_1109 : decode cL_law 1109 = .ok (.if_icmp .eq 55, 3) := by decide +kernel
theorem dL_law_1112 : decode cL_law 1112 = .ok (.iconst 0, 1) := by decide +kernel
theorem dL_law_1113 : decode cL_law 1113 = .ok (.ireturn, 1) := by decide +kernel
theorem dL_law_1114 : decode cL_law 1114 = .ok (.aload_n 1, 1) := by decide +kernel
theorem dL_law_1115 : decode cL_law 1115 = .ok (.invokevirtual 135, 3) := by decide +kernel
theorem dL_law_1118 : decode cL_law 1118 = .ok (.aload_n 2, 1) := by decide +kernel
theorem dL_law_1119 : decode cL_law 1119 = .ok (.invokevirtual 138, 3) := by decide +kernel
theorem dL_law_1122 : decode cL_law 1122 = .ok (.if_icmp .eq 42, 3) := by decide +kernel
theorem dL_law_1125 : decode cL_law 1125 = .ok (.iconst 0, 1) := by decide +kernel
theorem dL_law_1126 : decode cL_law 1126 = .ok (.ireturn, 1) := by decide +kernel
theorem dL_law_1127 : decode cL_law 1127 = .ok (.aload_n 1, 1) := by decide +kernel
theorem dL_law_1128 : decode cL_law 1128 = .ok (.aload_n 0, 1) := by decide +kernel
theorem dL_law_1129 : decode cL_law 1129 = .ok (.iload_n 3, 1) := by decide +kernel
theorem dL_law_1130 : decode cL_law 1130 = .ok (.iconst 1, 1) := by decide +kernel
theorem dL_law_1131 : decode cL_law 1131 = .ok (.iadd, 1) := by decide +kernel
theorem dL_law_1132 : decode cL_law 1132 = .ok (.iaload, 1) := by decide +kernel
theorem dL_law_1133 : decode cL_law 1133 = .ok (.invokevirtual 139, 3) := by decide +kernel
theorem dL_law_1136 : decode cL_law 1136 = .ok (.aload_n 2, 1) := by decide +kernel
theorem dL_law_1137 : decode cL_law 1137 = .ok (.aload_n 0, 1) := by decide +kernel
theorem dL_law_1138 : decode cL_law 1138 = .ok (.iload_n 3, 1) := by decide +kernel
theorem dL_law_1139 : decode cL_law 1139 = .ok (.iconst 1, 1) := by decide +kernel
theorem dL_law_1140 : decode cL_law 1140 = .ok (.iadd, 1) := by decide +kernel
theorem dL_law_1141 : decode cL_law 1141 = .ok (.iaload, 1) := by decide +kernel
theorem dL_law_1142 : decode cL_law 1142 = .ok (.invokevirtual 142, 3) := by decide +kernel
theorem dL_law_1145 : decode cL_law 1145 = .ok (.if_icmp .eq 19, 3) := by decide +kernel
theorem dL_law_1148 : decode cL_law 1148 = .ok (.iconst 0, 1) := by decide +kernel
theorem dL_law_1149 : decode cL_law 1149 = .ok (.ireturn, 1) := by decide +kernel
theorem dL_law_1150 : decode cL_law 1150 = .ok (.aload_n 1, 1) := by decide +kernel
theorem dL_law_1151 : decode cL_law 1151 = .ok (.invokevirtual 143, 3) := by decide +kernel
theorem dL_law_1154 : decode cL_law 1154 = .ok (.aload_n 2, 1) := by decide +kernel
theorem dL_law_1155 : decode cL_law 1155 = .ok (.invokevirtual 147, 3) := by decide +kernel
theorem dL_law_1158 : decode cL_law 1158 = .ok (.lcmp, 1) := by decide +kernel
theorem dL_law_1159 : decode cL_law 1159 = .ok (.ifCond .eq 5, 3) := by decide +kernel
theorem dL_law_1162 : decode cL_law 1162 = .ok (.iconst 0, 1) := by decide +kernel
theorem dL_law_1163 : decode cL_law 1163 = .ok (.ireturn, 1) := by decide +kernel
theorem dL_law_1164 : decode cL_law 1164 = .ok (.iinc 3 5, 3) := by decide +kernel
theorem dL_law_1167 : decode cL_law 1167 = .ok (.goto (-1149), 3) := by decide +kernel
theorem dL_law_1170 : decode cL_law 1170 = .ok (.iconst 1, 1) := by decide +kernel
theorem dL_law_1171 : decode cL_law 1171 = .ok (.ireturn, 1) := by decide +kernel
