theorem d_M_init_0 : decode c_M_init 0 = .ok (.aload_n 0, 1) := by decide +kernel
theorem d_M_init_1 : decode c_M_init 1 = .ok (.invokespecial 1, 3) := by decide +kernel
theorem d_M_init_4 : decode c_M_init 4 = .ok (.aload_n 0, 1) := by decide +kernel
theorem d_M_init_5 : decode c_M_init 5 = .ok (.sipush 248, 3) := by decide +kernel
theorem d_M_init_8 : decode c_M_init 8 = .ok (.newarray .int, 2) := by decide +kernel
theorem d_M_init_10 : decode c_M_init 10 = .ok (.putfield 7, 3) := by decide +kernel
theorem d_M_init_13 : decode c_M_init 13 = .ok (.aload_n 0, 1) := by decide +kernel
theorem d_M_init_14 : decode c_M_init 14 = .ok (.sipush 1488, 3) := by decide +kernel
theorem d_M_init_17 : decode c_M_init 17 = .ok (.newarray .long, 2) := by decide +kernel
theorem d_M_init_19 : decode c_M_init 19 = .ok (.putfield 13, 3) := by decide +kernel
theorem d_M_init_22 : decode c_M_init 22 = .ok (.aload_n 0, 1) := by decide +kernel
theorem d_M_init_23 : decode c_M_init 23 = .ok (.sipush 1488, 3) := by decide +kernel
theorem d_M_init_26 : decode c_M_init 26 = .ok (.newarray .long, 2) := by decide +kernel
theorem d_M_init_28 : decode c_M_init 28 = .ok (.putfield 17, 3) := by decide +kernel
theorem d_M_init_31 : decode c_M_init 31 = .ok (.aload_n 0, 1) := by decide +kernel
theorem d_M_init_32 : decode c_M_init 32 = .ok (.bipush 30, 2) := by decide +kernel
theorem d_M_init_34 : decode c_M_init 34 = .ok (.newarray .long, 2) := by decide +kernel
theorem d_M_init_36 : decode c_M_init 36 = .ok (.putfield 20, 3) := by decide +kernel
theorem d_M_init_39 : decode c_M_init 39 = .ok (.aload_n 0, 1) := by decide +kernel
theorem d_M_init_40 : decode c_M_init 40 = .ok (.bipush 30, 2) := by decide +kernel
theorem d_M_init_42 : decode c_M_init 42 = .ok (.newarray .long, 2) := by decide +kernel
theorem d_M_init_44 : decode c_M_init 44 = .ok (.putfield 23, 3) := by decide +kernel
theorem d_M_init_47 : decode c_M_init 47 = .ok (.aload_n 0, 1) := by decide +kernel
theorem d_M_init_48 : decode c_M_init 48 = .ok (.bipush 30, 2) := by decide +kernel
theorem d_M_init_50 : decode c_M_init 50 = .ok (.newarray .int, 2) := by decide +kernel
theorem d_M_init_52 : decode c_M_init 52 = .ok (.putfield 26, 3) := by decide +kernel
theorem d_M_init_55 : decode c_M_init 55 = .ok (.aload_n 0, 1) := by decide +kernel
theorem d_M_init_56 : decode c_M_init 56 = .ok (.bipush 8, 2) := by decide +kernel
theorem d_M_init_58 : decode c_M_init 58 = .ok (.newarray .long, 2) := by decide +kernel
theorem d_M_init_60 : decode c_M_init 60 = .ok (.putfield 29, 3) := by decide +kernel
theorem d_M_init_63 : decode c_M_init 63 = .ok (.aload_n 0, 1) := by decide +kernel
theorem d_M_init_64 : decode c_M_init 64 = .ok (.bipush 8, 2) := by decide +kernel
theorem d_M_init_66 : decode c_M_init 66 = .ok (.newarray .long, 2) := by decide +kernel
theorem d_M_init_68 : decode c_M_init 68 = .ok (.putfield 32, 3) := by decide +kernel
theorem d_M_init_71 : decode c_M_init 71 = .ok (.aload_n 0, 1) := by decide +kernel
theorem d_M_init_72 : decode c_M_init 72 = .ok (.bipush 8, 2) := by decide +kernel
theorem d_M_init_74 : decode c_M_init 74 = .ok (.newarray .long, 2) := by decide +kernel
theorem d_M_init_76 : decode c_M_init 76 = .ok (.putfield 35, 3) := by decide +kernel
theorem d_M_init_79 : decode c_M_init 79 = .ok (.aload_n 0, 1) := by decide +kernel
theorem d_M_init_80 : decode c_M_init 80 = .ok (.bipush 8, 2) := by decide +kernel
theorem d_M_init_82 : decode c_M_init 82 = .ok (.newarray .long, 2) := by decide +kernel
theorem d_M_init_84 : decode c_M_init 84 = .ok (.putfield 38, 3) := by decide +kernel
theorem d_M_init_87 : decode c_M_init 87 = .ok (.aload_n 0, 1) := by decide +kernel
theorem d_M_init_88 : decode c_M_init 88 = .ok (.bipush 8, 2) := by decide +kernel
theorem d_M_init_90 : decode c_M_init 90 = .ok (.newarray .int, 2) := by decide +kernel
theorem d_M_init_92 : decode c_M_init 92 = .ok (.putfield 41, 3) := by decide +kernel
theorem d_M_init_95 : decode c_M_init 95 = .ok (.aload_n 0, 1) := by decide +kernel
theorem d_M_init_96 : decode c_M_init 96 = .ok (.bipush 48, 2) := by decide +kernel
theorem d_M_init_98 : decode c_M_init 98 = .ok (.newarray .long, 2) := by decide +kernel
theorem d_M_init_100 : decode c_M_init 100 = .ok (.putfield 44, 3) := by decide +kernel
theorem d_M_init_103 : decode c_M_init 103 = .ok (.aload_n 0, 1) := by decide +kernel
theorem d_M_init_104 : decode c_M_init 104 = .ok (.bipush 48, 2) := by decide +kernel
theorem d_M_init_106 : decode c_M_init 106 = .ok (.newarray .long, 2) := by decide +kernel
theorem d_M_init_108 : decode c_M_init 108 = .ok (.putfield 47, 3) := by decide +kernel
theorem d_M_init_111 : decode c_M_init 111 = .ok (.aload_n 0, 1) := by decide +kernel
theorem d_M_init_112 : decode c_M_init 112 = .ok (.bipush 48, 2) := by decide +kernel
theorem d_M_init_114 : decode c_M_init 114 = .ok (.newarray .long, 2) := by decide +kernel
theorem d_M_init_116 : decode c_M_init 116 = .ok (.putfield 50, 3) := by decide +kernel
theorem d_M_init_119 : decode c_M_init 119 = .ok (.aload_n 0, 1) := by decide +kernel
theorem d_M_init_120 : decode c_M_init 120 = .ok (.bipush 33, 2) := by decide +kernel
theorem d_M_init_122 : decode c_M_init 122 = .ok (.newarray .long, 2) := by decide +kernel
theorem d_M_init_124 : decode c_M_init 124 = .ok (.putfield 53, 3) := by decide +kernel
theorem d_M_init_127 : decode c_M_init 127 = .ok (.aload_n 0, 1) := by decide +kernel
theorem d_M_init_128 : decode c_M_init 128 = .ok (.bipush 33, 2) := by decide +kernel
theorem d_M_init_130 : decode c_M_init 130 = .ok (.newarray .long, 2) := by decide +kernel
theorem d_M_init_132 : decode c_M_init 132 = .ok (.putfield 56, 3) := by decide +kernel
theorem d_M_init_135 : decode c_M_init 135 = .ok (.aload_n 0, 1) := by decide +kernel
theorem d_M_init_136 : decode c_M_init 136 = .ok (.bipush 33, 2) := by decide +kernel
theorem d_M_init_138 : decode c_M_init 138 = .ok (.newarray .int, 2) := by decide +kernel
theorem d_M_init_140 : decode c_M_init 140 = .ok (.putfield 59, 3) := by decide +kernel
theorem d_M_init_143 : decode c_M_init 143 = .ok (.aload_n 0, 1) := by decide +kernel
theorem d_M_init_144 : decode c_M_init 144 = .ok (.bipush 33, 2) := by decide +kernel
theorem d_M_init_146 : decode c_M_init 146 = .ok (.newarray .int, 2) := by decide +kernel
theorem d_M_init_148 : decode c_M_init 148 = .ok (.putfield 62, 3) := by decide +kernel
theorem d_M_init_151 : decode c_M_init 151 = .ok (.aload_n 0, 1) := by decide +kernel
theorem d_M_init_152 : decode c_M_init 152 = .ok (.bipush 33, 2) := by decide +kernel
theorem d_M_init_154 : decode c_M_init 154 = .ok (.newarray .long, 2) := by decide +kernel
theorem d_M_init_156 : decode c_M_init 156 = .ok (.putfield 65, 3) := by decide +kernel
theorem d_M_init_159 : decode c_M_init 159 = .ok (.aload_n 0, 1) := by decide +kernel
theorem d_M_init_160 : decode c_M_init 160 = .ok (.bipush 33, 2) := by decide +kernel
theorem d_M_init_162 : decode c_M_init 162 = .ok (.newarray .long, 2) := by decide +kernel
theorem d_M_init_164 : decode c_M_init 164 = .ok (.putfield 68, 3) := by decide +kernel
theorem d_M_init_167 : decode c_M_init 167 = .ok (.aload_n 0, 1) := by decide +kernel
theorem d_M_init_168 : decode c_M_init 168 = .ok (.bipush 33, 2) := by decide +kernel
theorem d_M_init_170 : decode c_M_init 170 = .ok (.newarray .int, 2) := by decide +kernel
theorem d_M_init_172 : decode c_M_init 172 = .ok (.putfield 71, 3) := by decide +kernel
theorem d_M_init_175 : decode c_M_init 175 = .ok (.aload_n 0, 1) := by decide +kernel
theorem d_M_init_176 : decode c_M_init 176 = .ok (.bipush 33, 2) := by decide +kernel
theorem d_M_init_178 : decode c_M_init 178 = .ok (.newarray .int, 2) := by decide +kernel
theorem d_M_init_180 : decode c_M_init 180 = .ok (.putfield 74, 3) := by decide +kernel
theorem d_M_init_183 : decode c_M_init 183 = .ok (.aload_n 0, 1) := by decide +kernel
theorem d_M_init_184 : decode c_M_init 184 = .ok (.bipush 33, 2) := by decide +kernel
theorem d_M_init_186 : decode c_M_init 186 = .ok (.newarray .long, 2) := by decide +kernel
theorem d_M_init_188 : decode c_M_init 188 = .ok (.putfield 77, 3) := by decide +kernel
theorem d_M_init_191 : decode c_M_init 191 = .ok (.return_, 1) := by decide +kernel
theorem d_M_thrown_0 : decode c_M_thrown 0 = .ok (.aload_n 0, 1) := by decide +kernel
theorem d_M_thrown_1 : decode c_M_thrown 1 = .ok (.getfield 80, 3) := by decide +kernel
theorem d_M_thrown_4 : decode c_M_thrown 4 = .ok (.ireturn, 1) := by decide +kernel
theorem d_M_isPart_0 : decode c_M_isPart 0 = .ok (.iload_n 1, 1) := by decide +kernel
theorem d_M_isPart_1 : decode c_M_isPart 1 = .ok (.ifCond .lt 15, 3) := by decide +kernel
theorem d_M_isPart_4 : decode c_M_isPart 4 = .ok (.iload_n 1, 1) := by decide +kernel
theorem d_M_isPart_5 : decode c_M_isPart 5 = .ok (.aload_n 0, 1) := by decide +kernel
theorem d_M_isPart_6 : decode c_M_isPart 6 = .ok (.getfield 84, 3) := by decide +kernel
theorem d_M_isPart_9 : decode c_M_isPart 9 = .ok (.if_icmp .ge 7, 3) := by decide +kernel
theorem d_M_isPart_12 : decode c_M_isPart 12 = .ok (.iconst 1, 1) := by decide +kernel
theorem d_M_isPart_13 : decode c_M_isPart 13 = .ok (.goto 4, 3) := by decide +kernel
theorem d_M_isPart_16 : decode c_M_isPart 16 = .ok (.iconst 0, 1) := by decide +kernel
theorem d_M_isPart_17 : decode c_M_isPart 17 = .ok (.ireturn, 1) := by decide +kernel
theorem d_M_isMaker_0 : decode c_M_isMaker 0 = .ok (.iload_n 0, 1) := by decide +kernel
theorem d_M_isMaker_1 : decode c_M_isMaker 1 = .ok (.ifCond .lt 13, 3) := by decide +kernel
theorem d_M_isMaker_4 : decode c_M_isMaker 4 = .ok (.iload_n 0, 1) := by decide +kernel
theorem d_M_isMaker_5 : decode c_M_isMaker 5 = .ok (.bipush 8, 2) := by decide +kernel
theorem d_M_isMaker_7 : decode c_M_isMaker 7 = .ok (.if_icmp .ge 7, 3) := by decide +kernel
theorem d_M_isMaker_10 : decode c_M_isMaker 10 = .ok (.iconst 1, 1) := by decide +kernel
theorem d_M_isMaker_11 : decode c_M_isMaker 11 = .ok (.goto 4, 3) := by decide +kernel
theorem d_M_isMaker_14 : decode c_M_isMaker 14 = .ok (.iconst 0, 1) := by decide +kernel
theorem d_M_isMaker_15 : decode c_M_isMaker 15 = .ok (.ireturn, 1) := by decide +kernel
theorem d_M_within_0 : decode c_M_within 0 = .ok (.lload_n 0, 1) := by decide +kernel
theorem d_M_within_1 : decode c_M_within 1 = .ok (.lload_n 2, 1) := by decide +kernel
theorem d_M_within_2 : decode c_M_within 2 = .ok (.lcmp, 1) := by decide +kernel
theorem d_M_within_3 : decode c_M_within 3 = .ok (.ifCond .lt 14, 3) := by decide +kernel
theorem d_M_within_6 : decode c_M_within 6 = .ok (.lload_n 0, 1) := by decide +kernel
theorem d_M_within_7 : decode c_M_within 7 = .ok (.lload 4, 2) := by decide +kernel
theorem d_M_within_9 : decode c_M_within 9 = .ok (.lcmp, 1) := by decide +kernel
theorem d_M_within_10 : decode c_M_within 10 = .ok (.ifCond .gt 7, 3) := by decide +kernel
theorem d_M_within_13 : decode c_M_within 13 = .ok (.iconst 1, 1) := by decide +kernel
theorem d_M_within_14 : decode c_M_within 14 = .ok (.goto 4, 3) := by decide +kernel
theorem d_M_within_17 : decode c_M_within 17 = .ok (.iconst 0, 1) := by decide +kernel
theorem d_M_within_18 : decode c_M_within 18 = .ok (.ireturn, 1) := by decide +kernel
theorem d_M_part_0 : decode c_M_part 0 = .ok (.aload_n 0, 1) := by decide +kernel
theorem d_M_part_1 : decode c_M_part 1 = .ok (.iconst 0, 1) := by decide +kernel
theorem d_M_part_2 : decode c_M_part 2 = .ok (.putfield 80, 3) := by decide +kernel
theorem d_M_part_5 : decode c_M_part 5 = .ok (.aload_n 0, 1) := by decide +kernel
theorem d_M_part_6 : decode c_M_part 6 = .ok (.getfield 84, 3) := by decide +kernel
theorem d_M_part_9 : decode c_M_part 9 = .ok (.bipush 30, 2) := by decide +kernel
theorem d_M_part_11 : decode c_M_part 11 = .ok (.if_icmp .ne 5, 3) := by decide +kernel
theorem d_M_part_14 : decode c_M_part 14 = .ok (.iconst (-1), 1) := by decide +kernel
theorem d_M_part_15 : decode c_M_part 15 = .ok (.ireturn, 1) := by decide +kernel
theorem d_M_part_16 : decode c_M_part 16 = .ok (.aload_n 0, 1) := by decide +kernel
theorem d_M_part_17 : decode c_M_part 17 = .ok (.dup, 1) := by decide +kernel
theorem d_M_part_18 : decode c_M_part 18 = .ok (.getfield 84, 3) := by decide +kernel
theorem d_M_part_21 : decode c_M_part 21 = .ok (.iconst 1, 1) := by decide +kernel
theorem d_M_part_22 : decode c_M_part 22 = .ok (.iadd, 1) := by decide +kernel
theorem d_M_part_23 : decode c_M_part 23 = .ok (.putfield 84, 3) := by decide +kernel
theorem d_M_part_26 : decode c_M_part 26 = .ok (.aload_n 0, 1) := by decide +kernel
theorem d_M_part_27 : decode c_M_part 27 = .ok (.getfield 84, 3) := by decide +kernel
theorem d_M_part_30 : decode c_M_part 30 = .ok (.iconst 1, 1) := by decide +kernel
theorem d_M_part_31 : decode c_M_part 31 = .ok (.isub, 1) := by decide +kernel
theorem d_M_part_32 : decode c_M_part 32 = .ok (.ireturn, 1) := by decide +kernel
theorem d_M_tellStep_0 : decode c_M_tellStep 0 = .ok (.bipush 6, 2) := by decide +kernel
theorem d_M_tellStep_2 : decode c_M_tellStep 2 = .ok (.iload_n 1, 1) := by decide +kernel
theorem d_M_tellStep_3 : decode c_M_tellStep 3 = .ok (.imul, 1) := by decide +kernel
theorem d_M_tellStep_4 : decode c_M_tellStep 4 = .ok (.istore 6, 2) := by decide +kernel
theorem d_M_tellStep_6 : decode c_M_tellStep 6 = .ok (.iload 6, 2) := by decide +kernel
theorem d_M_tellStep_8 : decode c_M_tellStep 8 = .ok (.bipush 6, 2) := by decide +kernel
theorem d_M_tellStep_10 : decode c_M_tellStep 10 = .ok (.iload_n 1, 1) := by decide +kernel
theorem d_M_tellStep_11 : decode c_M_tellStep 11 = .ok (.imul, 1) := by decide +kernel
theorem d_M_tellStep_12 : decode c_M_tellStep 12 = .ok (.aload_n 0, 1) := by decide +kernel
theorem d_M_tellStep_13 : decode c_M_tellStep 13 = .ok (.getfield 7, 3) := by decide +kernel
theorem d_M_tellStep_16 : decode c_M_tellStep 16 = .ok (.iload_n 1, 1) := by decide +kernel
theorem d_M_tellStep_17 : decode c_M_tellStep 17 = .ok (.iaload, 1) := by decide +kernel
theorem d_M_tellStep_18 : decode c_M_tellStep 18 = .ok (.iadd, 1) := by decide +kernel
theorem d_M_tellStep_19 : decode c_M_tellStep 19 = .ok (.if_icmp .ge 21, 3) := by decide +kernel
theorem d_M_tellStep_22 : decode c_M_tellStep 22 = .ok (.aload_n 0, 1) := by decide +kernel
theorem d_M_tellStep_23 : decode c_M_tellStep 23 = .ok (.getfield 13, 3) := by decide +kernel
theorem d_M_tellStep_26 : decode c_M_tellStep 26 = .ok (.iload 6, 2) := by decide +kernel
theorem d_M_tellStep_28 : decode c_M_tellStep 28 = .ok (.laload, 1) := by decide +kernel
theorem d_M_tellStep_29 : decode c_M_tellStep 29 = .ok (.lload_n 2, 1) := by decide +kernel
theorem d_M_tellStep_30 : decode c_M_tellStep 30 = .ok (.lcmp, 1) := by decide +kernel
theorem d_M_tellStep_31 : decode c_M_tellStep 31 = .ok (.ifCond .eq 9, 3) := by decide +kernel
theorem d_M_tellStep_34 : decode c_M_tellStep 34 = .ok (.iinc 6 1, 3) := by decide +kernel
theorem d_M_tellStep_37 : decode c_M_tellStep 37 = .ok (.goto (-31), 3) := by decide +kernel
theorem d_M_tellStep_40 : decode c_M_tellStep 40 = .ok (.iload 6, 2) := by decide +kernel
theorem d_M_tellStep_42 : decode c_M_tellStep 42 = .ok (.bipush 6, 2) := by decide +kernel
theorem d_M_tellStep_44 : decode c_M_tellStep 44 = .ok (.iload_n 1, 1) := by decide +kernel
theorem d_M_tellStep_45 : decode c_M_tellStep 45 = .ok (.imul, 1) := by decide +kernel
theorem d_M_tellStep_46 : decode c_M_tellStep 46 = .ok (.aload_n 0, 1) := by decide +kernel
theorem d_M_tellStep_47 : decode c_M_tellStep 47 = .ok (.getfield 7, 3) := by decide +kernel
theorem d_M_tellStep_50 : decode c_M_tellStep 50 = .ok (.iload_n 1, 1) := by decide +kernel
theorem d_M_tellStep_51 : decode c_M_tellStep 51 = .ok (.iaload, 1) := by decide +kernel
theorem d_M_tellStep_52 : decode c_M_tellStep 52 = .ok (.iadd, 1) := by decide +kernel
theorem d_M_tellStep_53 : decode c_M_tellStep 53 = .ok (.if_icmp .ge 7, 3) := by decide +kernel
theorem d_M_tellStep_56 : decode c_M_tellStep 56 = .ok (.iconst 1, 1) := by decide +kernel
theorem d_M_tellStep_57 : decode c_M_tellStep 57 = .ok (.goto 4, 3) := by decide +kernel
theorem d_M_tellStep_60 : decode c_M_tellStep 60 = .ok (.iconst 0, 1) := by decide +kernel
theorem d_M_tellStep_61 : decode c_M_tellStep 61 = .ok (.istore 7, 2) := by decide +kernel
theorem d_M_tellStep_63 : decode c_M_tellStep 63 = .ok (.iload 7, 2) := by decide +kernel
theorem d_M_tellStep_65 : decode c_M_tellStep 65 = .ok (.ifCond .eq 19, 3) := by decide +kernel
theorem d_M_tellStep_68 : decode c_M_tellStep 68 = .ok (.aload_n 0, 1) := by decide +kernel
theorem d_M_tellStep_69 : decode c_M_tellStep 69 = .ok (.getfield 17, 3) := by decide +kernel
theorem d_M_tellStep_72 : decode c_M_tellStep 72 = .ok (.iload 6, 2) := by decide +kernel
theorem d_M_tellStep_74 : decode c_M_tellStep 74 = .ok (.laload, 1) := by decide +kernel
theorem d_M_tellStep_75 : decode c_M_tellStep 75 = .ok (.lload 4, 2) := by decide +kernel
theorem d_M_tellStep_77 : decode c_M_tellStep 77 = .ok (.lcmp, 1) := by decide +kernel
theorem d_M_tellStep_78 : decode c_M_tellStep 78 = .ok (.ifCond .ne 19, 3) := by decide +kernel
theorem d_M_tellStep_81 : decode c_M_tellStep 81 = .ok (.goto 14, 3) := by decide +kernel
theorem d_M_tellStep_84 : decode c_M_tellStep 84 = .ok (.aload_n 0, 1) := by decide +kernel
theorem d_M_tellStep_85 : decode c_M_tellStep 85 = .ok (.getfield 7, 3) := by decide +kernel
theorem d_M_tellStep_88 : decode c_M_tellStep 88 = .ok (.iload_n 1, 1) := by decide +kernel
theorem d_M_tellStep_89 : decode c_M_tellStep 89 = .ok (.iaload, 1) := by decide +kernel
theorem d_M_tellStep_90 : decode c_M_tellStep 90 = .ok (.bipush 6, 2) := by decide +kernel
theorem d_M_tellStep_92 : decode c_M_tellStep 92 = .ok (.if_icmp .ne 5, 3) := by decide +kernel
theorem d_M_tellStep_95 : decode c_M_tellStep 95 = .ok (.iconst 0, 1) := by decide +kernel
theorem d_M_tellStep_96 : decode c_M_tellStep 96 = .ok (.ireturn, 1) := by decide +kernel
theorem d_M_tellStep_97 : decode c_M_tellStep 97 = .ok (.iload 7, 2) := by decide +kernel
theorem d_M_tellStep_99 : decode c_M_tellStep 99 = .ok (.ifCond .ne 13, 3) := by decide +kernel
theorem d_M_tellStep_102 : decode c_M_tellStep 102 = .ok (.aload_n 0, 1) := by decide +kernel
theorem d_M_tellStep_103 : decode c_M_tellStep 103 = .ok (.getfield 7, 3) := by decide +kernel
theorem d_M_tellStep_106 : decode c_M_tellStep 106 = .ok (.iload_n 1, 1) := by decide +kernel
theorem d_M_tellStep_107 : decode c_M_tellStep 107 = .ok (.dup2, 1) := by decide +kernel
theorem d_M_tellStep_108 : decode c_M_tellStep 108 = .ok (.iaload, 1) := by decide +kernel
theorem d_M_tellStep_109 : decode c_M_tellStep 109 = .ok (.iconst 1, 1) := by decide +kernel
theorem d_M_tellStep_110 : decode c_M_tellStep 110 = .ok (.iadd, 1) := by decide +kernel
theorem d_M_tellStep_111 : decode c_M_tellStep 111 = .ok (.iastore, 1) := by decide +kernel
theorem d_M_tellStep_112 : decode c_M_tellStep 112 = .ok (.aload_n 0, 1) := by decide +kernel
theorem d_M_tellStep_113 : decode c_M_tellStep 113 = .ok (.getfield 13, 3) := by decide +kernel
theorem d_M_tellStep_116 : decode c_M_tellStep 116 = .ok (.iload 6, 2) := by decide +kernel
theorem d_M_tellStep_118 : decode c_M_tellStep 118 = .ok (.lload_n 2, 1) := by decide +kernel
theorem d_M_tellStep_119 : decode c_M_tellStep 119 = .ok (.lastore, 1) := by decide +kernel
theorem d_M_tellStep_120 : decode c_M_tellStep 120 = .ok (.aload_n 0, 1) := by decide +kernel
theorem d_M_tellStep_121 : decode c_M_tellStep 121 = .ok (.getfield 17, 3) := by decide +kernel
theorem d_M_tellStep_124 : decode c_M_tellStep 124 = .ok (.iload 6, 2) := by decide +kernel
theorem d_M_tellStep_126 : decode c_M_tellStep 126 = .ok (.lload 4, 2) := by decide +kernel
theorem d_M_tellStep_128 : decode c_M_tellStep 128 = .ok (.lastore, 1) := by decide +kernel
theorem d_M_tellStep_129 : decode c_M_tellStep 129 = .ok (.iconst 1, 1) := by decide +kernel
theorem d_M_tellStep_130 : decode c_M_tellStep 130 = .ok (.ireturn, 1) := by decide +kernel
theorem d_M_price_0 : decode c_M_price 0 = .ok (.lload_n 3, 1) := by decide +kernel
theorem d_M_price_1 : decode c_M_price 1 = .ok (.lconst 1, 1) := by decide +kernel
theorem d_M_price_2 : decode c_M_price 2 = .ok (.ldc2_w 87, 3) := by decide +kernel
theorem d_M_price_5 : decode c_M_price 5 = .ok (.invokestatic 89, 3) := by decide +kernel
theorem d_M_price_8 : decode c_M_price 8 = .ok (.ifCond .eq 19, 3) := by decide +kernel
theorem d_M_price_11 : decode c_M_price 11 = .ok (.lload 5, 2) := by decide +kernel
theorem d_M_price_13 : decode c_M_price 13 = .ok (.lconst 1, 1) := by decide +kernel
theorem d_M_price_14 : decode c_M_price 14 = .ok (.ldc2_w 93, 3) := by decide +kernel
theorem d_M_price_17 : decode c_M_price 17 = .ok (.invokestatic 89, 3) := by decide +kernel
theorem d_M_price_20 : decode c_M_price 20 = .ok (.ifCond .eq 7, 3) := by decide +kernel
theorem d_M_price_23 : decode c_M_price 23 = .ok (.iconst 1, 1) := by decide +kernel
theorem d_M_price_24 : decode c_M_price 24 = .ok (.goto 4, 3) := by decide +kernel
theorem d_M_price_27 : decode c_M_price 27 = .ok (.iconst 0, 1) := by decide +kernel
theorem d_M_price_28 : decode c_M_price 28 = .ok (.istore 7, 2) := by decide +kernel
theorem d_M_price_30 : decode c_M_price 30 = .ok (.aload_n 0, 1) := by decide +kernel
theorem d_M_price_31 : decode c_M_price 31 = .ok (.aload_n 0, 1) := by decide +kernel
theorem d_M_price_32 : decode c_M_price 32 = .ok (.iload_n 1, 1) := by decide +kernel
theorem d_M_price_33 : decode c_M_price 33 = .ok (.invokevirtual 95, 3) := by decide +kernel
theorem d_M_price_36 : decode c_M_price 36 = .ok (.ifCond .eq 10, 3) := by decide +kernel
theorem d_M_price_39 : decode c_M_price 39 = .ok (.iload_n 2, 1) := by decide +kernel
theorem d_M_price_40 : decode c_M_price 40 = .ok (.invokestatic 99, 3) := by decide +kernel
theorem d_M_price_43 : decode c_M_price 43 = .ok (.ifCond .ne 7, 3) := by decide +kernel
theorem d_M_price_46 : decode c_M_price 46 = .ok (.iconst 1, 1) := by decide +kernel
theorem d_M_price_47 : decode c_M_price 47 = .ok (.goto 13, 3) := by decide +kernel
theorem d_M_price_50 : decode c_M_price 50 = .ok (.iload 7, 2) := by decide +kernel
theorem d_M_price_52 : decode c_M_price 52 = .ok (.ifCond .eq 7, 3) := by decide +kernel
theorem d_M_price_55 : decode c_M_price 55 = .ok (.iconst 0, 1) := by decide +kernel
theorem d_M_price_56 : decode c_M_price 56 = .ok (.goto 4, 3) := by decide +kernel
theorem d_M_price_59 : decode c_M_price 59 = .ok (.iconst 2, 1) := by decide +kernel
theorem d_M_price_60 : decode c_M_price 60 = .ok (.putfield 80, 3) := by decide +kernel
theorem d_M_price_63 : decode c_M_price 63 = .ok (.aload_n 0, 1) := by decide +kernel
theorem d_M_price_64 : decode c_M_price 64 = .ok (.getfield 80, 3) := by decide +kernel
theorem d_M_price_67 : decode c_M_price 67 = .ok (.ifCond .ne 23, 3) := by decide +kernel
theorem d_M_price_70 : decode c_M_price 70 = .ok (.aload_n 0, 1) := by decide +kernel
theorem d_M_price_71 : decode c_M_price 71 = .ok (.bipush 8, 2) := by decide +kernel
theorem d_M_price_73 : decode c_M_price 73 = .ok (.iload_n 1, 1) := by decide +kernel
theorem d_M_price_74 : decode c_M_price 74 = .ok (.imul, 1) := by decide +kernel
theorem d_M_price_75 : decode c_M_price 75 = .ok (.iload_n 2, 1) := by decide +kernel
theorem d_M_price_76 : decode c_M_price 76 = .ok (.iadd, 1) := by decide +kernel
theorem d_M_price_77 : decode c_M_price 77 = .ok (.lload_n 3, 1) := by decide +kernel
theorem d_M_price_78 : decode c_M_price 78 = .ok (.lload 5, 2) := by decide +kernel
theorem d_M_price_80 : decode c_M_price 80 = .ok (.invokevirtual 102, 3) := by decide +kernel
theorem d_M_price_83 : decode c_M_price 83 = .ok (.ifCond .eq 7, 3) := by decide +kernel
theorem d_M_price_86 : decode c_M_price 86 = .ok (.iconst 1, 1) := by decide +kernel
theorem d_M_price_87 : decode c_M_price 87 = .ok (.goto 4, 3) := by decide +kernel
theorem d_M_price_90 : decode c_M_price 90 = .ok (.iconst 0, 1) := by decide +kernel
theorem d_M_price_91 : decode c_M_price 91 = .ok (.ireturn, 1) := by decide +kernel
theorem d_M_board_0 : decode c_M_board 0 = .ok (.lload_n 2, 1) := by decide +kernel
theorem d_M_board_1 : decode c_M_board 1 = .ok (.lconst 1, 1) := by decide +kernel
theorem d_M_board_2 : decode c_M_board 2 = .ok (.ldc2_w 87, 3) := by decide +kernel
theorem d_M_board_5 : decode c_M_board 5 = .ok (.invokestatic 89, 3) := by decide +kernel
theorem d_M_board_8 : decode c_M_board 8 = .ok (.ifCond .eq 19, 3) := by decide +kernel
theorem d_M_board_11 : decode c_M_board 11 = .ok (.lload 4, 2) := by decide +kernel
theorem d_M_board_13 : decode c_M_board 13 = .ok (.lconst 1, 1) := by decide +kernel
theorem d_M_board_14 : decode c_M_board 14 = .ok (.ldc2_w 93, 3) := by decide +kernel
theorem d_M_board_17 : decode c_M_board 17 = .ok (.invokestatic 89, 3) := by decide +kernel
theorem d_M_board_20 : decode c_M_board 20 = .ok (.ifCond .eq 7, 3) := by decide +kernel
theorem d_M_board_23 : decode c_M_board 23 = .ok (.iconst 1, 1) := by decide +kernel
theorem d_M_board_24 : decode c_M_board 24 = .ok (.goto 4, 3) := by decide +kernel
theorem d_M_board_27 : decode c_M_board 27 = .ok (.iconst 0, 1) := by decide +kernel
theorem d_M_board_28 : decode c_M_board 28 = .ok (.istore 6, 2) := by decide +kernel
theorem d_M_board_30 : decode c_M_board 30 = .ok (.aload_n 0, 1) := by decide +kernel
theorem d_M_board_31 : decode c_M_board 31 = .ok (.iload_n 1, 1) := by decide +kernel
theorem d_M_board_32 : decode c_M_board 32 = .ok (.invokestatic 99, 3) := by decide +kernel
theorem d_M_board_35 : decode c_M_board 35 = .ok (.ifCond .ne 7, 3) := by decide +kernel
theorem d_M_board_38 : decode c_M_board 38 = .ok (.iconst 1, 1) := by decide +kernel
theorem d_M_board_39 : decode c_M_board 39 = .ok (.goto 13, 3) := by decide +kernel
theorem d_M_board_42 : decode c_M_board 42 = .ok (.iload 6, 2) := by decide +kernel
theorem d_M_board_44 : decode c_M_board 44 = .ok (.ifCond .eq 7, 3) := by decide +kernel
theorem d_M_board_47 : decode c_M_board 47 = .ok (.iconst 0, 1) := by decide +kernel
theorem d_M_board_48 : decode c_M_board 48 = .ok (.goto 4, 3) := by decide +kernel
theorem d_M_board_51 : decode c_M_board 51 = .ok (.iconst 2, 1) := by decide +kernel
theorem d_M_board_52 : decode c_M_board 52 = .ok (.putfield 80, 3) := by decide +kernel
theorem d_M_board_55 : decode c_M_board 55 = .ok (.aload_n 0, 1) := by decide +kernel
theorem d_M_board_56 : decode c_M_board 56 = .ok (.getfield 80, 3) := by decide +kernel
theorem d_M_board_59 : decode c_M_board 59 = .ok (.ifCond .ne 22, 3) := by decide +kernel
theorem d_M_board_62 : decode c_M_board 62 = .ok (.aload_n 0, 1) := by decide +kernel
theorem d_M_board_63 : decode c_M_board 63 = .ok (.sipush 240, 3) := by decide +kernel
theorem d_M_board_66 : decode c_M_board 66 = .ok (.iload_n 1, 1) := by decide +kernel
theorem d_M_board_67 : decode c_M_board 67 = .ok (.iadd, 1) := by decide +kernel
theorem d_M_board_68 : decode c_M_board 68 = .ok (.lload_n 2, 1) := by decide +kernel
theorem d_M_board_69 : decode c_M_board 69 = .ok (.lload 4, 2) := by decide +kernel
theorem d_M_board_71 : decode c_M_board 71 = .ok (.invokevirtual 102, 3) := by decide +kernel
theorem d_M_board_74 : decode c_M_board 74 = .ok (.ifCond .eq 7, 3) := by decide +kernel
theorem d_M_board_77 : decode c_M_board 77 = .ok (.iconst 1, 1) := by decide +kernel
theorem d_M_board_78 : decode c_M_board 78 = .ok (.goto 4, 3) := by decide +kernel
theorem d_M_board_81 : decode c_M_board 81 = .ok (.iconst 0, 1) := by decide +kernel
theorem d_M_board_82 : decode c_M_board 82 = .ok (.ireturn, 1) := by decide +kernel
theorem d_M_uses_0 : decode c_M_uses 0 = .ok (.aload_n 0, 1) := by decide +kernel
theorem d_M_uses_1 : decode c_M_uses 1 = .ok (.aload_n 0, 1) := by decide +kernel
theorem d_M_uses_2 : decode c_M_uses 2 = .ok (.iload_n 1, 1) := by decide +kernel
theorem d_M_uses_3 : decode c_M_uses 3 = .ok (.invokevirtual 95, 3) := by decide +kernel
theorem d_M_uses_6 : decode c_M_uses 6 = .ok (.ifCond .ne 7, 3) := by decide +kernel
theorem d_M_uses_9 : decode c_M_uses 9 = .ok (.iconst 1, 1) := by decide +kernel
theorem d_M_uses_10 : decode c_M_uses 10 = .ok (.goto 19, 3) := by decide +kernel
theorem d_M_uses_13 : decode c_M_uses 13 = .ok (.lload_n 2, 1) := by decide +kernel
theorem d_M_uses_14 : decode c_M_uses 14 = .ok (.lconst 0, 1) := by decide +kernel
theorem d_M_uses_15 : decode c_M_uses 15 = .ok (.ldc2_w 106, 3) := by decide +kernel
theorem d_M_uses_18 : decode c_M_uses 18 = .ok (.invokestatic 89, 3) := by decide +kernel
theorem d_M_uses_21 : decode c_M_uses 21 = .ok (.ifCond .eq 7, 3) := by decide +kernel
theorem d_M_uses_24 : decode c_M_uses 24 = .ok (.iconst 0, 1) := by decide +kernel
theorem d_M_uses_25 : decode c_M_uses 25 = .ok (.goto 4, 3) := by decide +kernel
theorem d_M_uses_28 : decode c_M_uses 28 = .ok (.iconst 2, 1) := by decide +kernel
theorem d_M_uses_29 : decode c_M_uses 29 = .ok (.putfield 80, 3) := by decide +kernel
theorem d_M_uses_32 : decode c_M_uses 32 = .ok (.aload_n 0, 1) := by decide +kernel
theorem d_M_uses_33 : decode c_M_uses 33 = .ok (.getfield 80, 3) := by decide +kernel
theorem d_M_uses_36 : decode c_M_uses 36 = .ok (.ifCond .ne 14, 3) := by decide +kernel
theorem d_M_uses_39 : decode c_M_uses 39 = .ok (.aload_n 0, 1) := by decide +kernel
theorem d_M_uses_40 : decode c_M_uses 40 = .ok (.getfield 20, 3) := by decide +kernel
theorem d_M_uses_43 : decode c_M_uses 43 = .ok (.iload_n 1, 1) := by decide +kernel
theorem d_M_uses_44 : decode c_M_uses 44 = .ok (.laload, 1) := by decide +kernel
theorem d_M_uses_45 : decode c_M_uses 45 = .ok (.lload_n 2, 1) := by decide +kernel
theorem d_M_uses_46 : decode c_M_uses 46 = .ok (.lcmp, 1) := by decide +kernel
theorem d_M_uses_47 : decode c_M_uses 47 = .ok (.ifCond .ne 5, 3) := by decide +kernel
theorem d_M_uses_50 : decode c_M_uses 50 = .ok (.iconst 0, 1) := by decide +kernel
theorem d_M_uses_51 : decode c_M_uses 51 = .ok (.ireturn, 1) := by decide +kernel
theorem d_M_uses_52 : decode c_M_uses 52 = .ok (.aload_n 0, 1) := by decide +kernel
theorem d_M_uses_53 : decode c_M_uses 53 = .ok (.getfield 20, 3) := by decide +kernel
theorem d_M_uses_56 : decode c_M_uses 56 = .ok (.iload_n 1, 1) := by decide +kernel
theorem d_M_uses_57 : decode c_M_uses 57 = .ok (.lload_n 2, 1) := by decide +kernel
theorem d_M_uses_58 : decode c_M_uses 58 = .ok (.lastore, 1) := by decide +kernel
theorem d_M_uses_59 : decode c_M_uses 59 = .ok (.iconst 1, 1) := by decide +kernel
theorem d_M_uses_60 : decode c_M_uses 60 = .ok (.ireturn, 1) := by decide +kernel
theorem d_M_stock_0 : decode c_M_stock 0 = .ok (.aload_n 0, 1) := by decide +kernel
theorem d_M_stock_1 : decode c_M_stock 1 = .ok (.aload_n 0, 1) := by decide +kernel
theorem d_M_stock_2 : decode c_M_stock 2 = .ok (.iload_n 1, 1) := by decide +kernel
theorem d_M_stock_3 : decode c_M_stock 3 = .ok (.invokevirtual 95, 3) := by decide +kernel
theorem d_M_stock_6 : decode c_M_stock 6 = .ok (.ifCond .ne 7, 3) := by decide +kernel
theorem d_M_stock_9 : decode c_M_stock 9 = .ok (.iconst 1, 1) := by decide +kernel
theorem d_M_stock_10 : decode c_M_stock 10 = .ok (.goto 19, 3) := by decide +kernel
theorem d_M_stock_13 : decode c_M_stock 13 = .ok (.lload_n 2, 1) := by decide +kernel
theorem d_M_stock_14 : decode c_M_stock 14 = .ok (.lconst 0, 1) := by decide +kernel
theorem d_M_stock_15 : decode c_M_stock 15 = .ok (.ldc2_w 87, 3) := by decide +kernel
theorem d_M_stock_18 : decode c_M_stock 18 = .ok (.invokestatic 89, 3) := by decide +kernel
theorem d_M_stock_21 : decode c_M_stock 21 = .ok (.ifCond .eq 7, 3) := by decide +kernel
theorem d_M_stock_24 : decode c_M_stock 24 = .ok (.iconst 0, 1) := by decide +kernel
theorem d_M_stock_25 : decode c_M_stock 25 = .ok (.goto 4, 3) := by decide +kernel
theorem d_M_stock_28 : decode c_M_stock 28 = .ok (.iconst 2, 1) := by decide +kernel
theorem d_M_stock_29 : decode c_M_stock 29 = .ok (.putfield 80, 3) := by decide +kernel
theorem d_M_stock_32 : decode c_M_stock 32 = .ok (.aload_n 0, 1) := by decide +kernel
theorem d_M_stock_33 : decode c_M_stock 33 = .ok (.getfield 80, 3) := by decide +kernel
theorem d_M_stock_36 : decode c_M_stock 36 = .ok (.ifCond .ne 14, 3) := by decide +kernel
theorem d_M_stock_39 : decode c_M_stock 39 = .ok (.aload_n 0, 1) := by decide +kernel
theorem d_M_stock_40 : decode c_M_stock 40 = .ok (.getfield 23, 3) := by decide +kernel
theorem d_M_stock_43 : decode c_M_stock 43 = .ok (.iload_n 1, 1) := by decide +kernel
theorem d_M_stock_44 : decode c_M_stock 44 = .ok (.laload, 1) := by decide +kernel
theorem d_M_stock_45 : decode c_M_stock 45 = .ok (.lload_n 2, 1) := by decide +kernel
theorem d_M_stock_46 : decode c_M_stock 46 = .ok (.lcmp, 1) := by decide +kernel
theorem d_M_stock_47 : decode c_M_stock 47 = .ok (.ifCond .ne 5, 3) := by decide +kernel
theorem d_M_stock_50 : decode c_M_stock 50 = .ok (.iconst 0, 1) := by decide +kernel
theorem d_M_stock_51 : decode c_M_stock 51 = .ok (.ireturn, 1) := by decide +kernel
theorem d_M_stock_52 : decode c_M_stock 52 = .ok (.aload_n 0, 1) := by decide +kernel
theorem d_M_stock_53 : decode c_M_stock 53 = .ok (.getfield 23, 3) := by decide +kernel
theorem d_M_stock_56 : decode c_M_stock 56 = .ok (.iload_n 1, 1) := by decide +kernel
theorem d_M_stock_57 : decode c_M_stock 57 = .ok (.lload_n 2, 1) := by decide +kernel
theorem d_M_stock_58 : decode c_M_stock 58 = .ok (.lastore, 1) := by decide +kernel
theorem d_M_stock_59 : decode c_M_stock 59 = .ok (.iconst 1, 1) := by decide +kernel
theorem d_M_stock_60 : decode c_M_stock 60 = .ok (.ireturn, 1) := by decide +kernel
theorem d_M_alternate_0 : decode c_M_alternate 0 = .ok (.aload_n 0, 1) := by decide +kernel
theorem d_M_alternate_1 : decode c_M_alternate 1 = .ok (.aload_n 0, 1) := by decide +kernel
theorem d_M_alternate_2 : decode c_M_alternate 2 = .ok (.iload_n 1, 1) := by decide +kernel
theorem d_M_alternate_3 : decode c_M_alternate 3 = .ok (.invokevirtual 95, 3) := by decide +kernel
theorem d_M_alternate_6 : decode c_M_alternate 6 = .ok (.ifCond .eq 15, 3) := by decide +kernel
theorem d_M_alternate_9 : decode c_M_alternate 9 = .ok (.aload_n 0, 1) := by decide +kernel
theorem d_M_alternate_10 : decode c_M_alternate 10 = .ok (.iload_n 2, 1) := by decide +kernel
theorem d_M_alternate_11 : decode c_M_alternate 11 = .ok (.invokevirtual 95, 3) := by decide +kernel
theorem d_M_alternate_14 : decode c_M_alternate 14 = .ok (.ifCond .eq 7, 3) := by decide +kernel
theorem d_M_alternate_17 : decode c_M_alternate 17 = .ok (.iconst 0, 1) := by decide +kernel
theorem d_M_alternate_18 : decode c_M_alternate 18 = .ok (.goto 4, 3) := by decide +kernel
theorem d_M_alternate_21 : decode c_M_alternate 21 = .ok (.iconst 1, 1) := by decide +kernel
theorem d_M_alternate_22 : decode c_M_alternate 22 = .ok (.putfield 80, 3) := by decide +kernel
theorem d_M_alternate_25 : decode c_M_alternate 25 = .ok (.aload_n 0, 1) := by decide +kernel
theorem d_M_alternate_26 : decode c_M_alternate 26 = .ok (.getfield 80, 3) := by decide +kernel
theorem d_M_alternate_29 : decode c_M_alternate 29 = .ok (.ifCond .ne 22, 3) := by decide +kernel
theorem d_M_alternate_32 : decode c_M_alternate 32 = .ok (.iload_n 1, 1) := by decide +kernel
theorem d_M_alternate_33 : decode c_M_alternate 33 = .ok (.iload_n 2, 1) := by decide +kernel
theorem d_M_alternate_34 : decode c_M_alternate 34 = .ok (.if_icmp .eq 17, 3) := by decide +kernel
theorem d_M_alternate_37 : decode c_M_alternate 37 = .ok (.aload_n 0, 1) := by decide +kernel
theorem d_M_alternate_38 : decode c_M_alternate 38 = .ok (.getfield 26, 3) := by decide +kernel
theorem d_M_alternate_41 : decode c_M_alternate 41 = .ok (.iload_n 1, 1) := by decide +kernel
theorem d_M_alternate_42 : decode c_M_alternate 42 = .ok (.iaload, 1) := by decide +kernel
theorem d_M_alternate_43 : decode c_M_alternate 43 = .ok (.iload_n 2, 1) := by decide +kernel
theorem d_M_alternate_44 : decode c_M_alternate 44 = .ok (.ishr, 1) := by decide +kernel
theorem d_M_alternate_45 : decode c_M_alternate 45 = .ok (.iconst 1, 1) := by decide +kernel
theorem d_M_alternate_46 : decode c_M_alternate 46 = .ok (.iand, 1) := by decide +kernel
theorem d_M_alternate_47 : decode c_M_alternate 47 = .ok (.iconst 1, 1) := by decide +kernel
theorem d_M_alternate_48 : decode c_M_alternate 48 = .ok (.if_icmp .ne 5, 3) := by decide +kernel
theorem d_M_alternate_51 : decode c_M_alternate 51 = .ok (.iconst 0, 1) := by decide +kernel
theorem d_M_alternate_52 : decode c_M_alternate 52 = .ok (.ireturn, 1) := by decide +kernel
theorem d_M_alternate_53 : decode c_M_alternate 53 = .ok (.aload_n 0, 1) := by decide +kernel
theorem d_M_alternate_54 : decode c_M_alternate 54 = .ok (.getfield 26, 3) := by decide +kernel
theorem d_M_alternate_57 : decode c_M_alternate 57 = .ok (.iload_n 1, 1) := by decide +kernel
theorem d_M_alternate_58 : decode c_M_alternate 58 = .ok (.aload_n 0, 1) := by decide +kernel
theorem d_M_alternate_59 : decode c_M_alternate 59 = .ok (.getfield 26, 3) := by decide +kernel
theorem d_M_alternate_62 : decode c_M_alternate 62 = .ok (.iload_n 1, 1) := by decide +kernel
theorem d_M_alternate_63 : decode c_M_alternate 63 = .ok (.iaload, 1) := by decide +kernel
theorem d_M_alternate_64 : decode c_M_alternate 64 = .ok (.iconst 1, 1) := by decide +kernel
theorem d_M_alternate_65 : decode c_M_alternate 65 = .ok (.iload_n 2, 1) := by decide +kernel
theorem d_M_alternate_66 : decode c_M_alternate 66 = .ok (.ishl, 1) := by decide +kernel
theorem d_M_alternate_67 : decode c_M_alternate 67 = .ok (.ior, 1) := by decide +kernel
theorem d_M_alternate_68 : decode c_M_alternate 68 = .ok (.iastore, 1) := by decide +kernel
theorem d_M_alternate_69 : decode c_M_alternate 69 = .ok (.iconst 1, 1) := by decide +kernel
theorem d_M_alternate_70 : decode c_M_alternate 70 = .ok (.ireturn, 1) := by decide +kernel
theorem d_M_isSort_0 : decode c_M_isSort 0 = .ok (.iload_n 0, 1) := by decide +kernel
theorem d_M_isSort_1 : decode c_M_isSort 1 = .ok (.ifCond .lt 13, 3) := by decide +kernel
theorem d_M_isSort_4 : decode c_M_isSort 4 = .ok (.iload_n 0, 1) := by decide +kernel
theorem d_M_isSort_5 : decode c_M_isSort 5 = .ok (.bipush 8, 2) := by decide +kernel
theorem d_M_isSort_7 : decode c_M_isSort 7 = .ok (.if_icmp .ge 7, 3) := by decide +kernel
theorem d_M_isSort_10 : decode c_M_isSort 10 = .ok (.iconst 1, 1) := by decide +kernel
theorem d_M_isSort_11 : decode c_M_isSort 11 = .ok (.goto 4, 3) := by decide +kernel
theorem d_M_isSort_14 : decode c_M_isSort 14 = .ok (.iconst 0, 1) := by decide +kernel
theorem d_M_isSort_15 : decode c_M_isSort 15 = .ok (.ireturn, 1) := by decide +kernel
theorem d_M_assembly_0 : decode c_M_assembly 0 = .ok (.aload_n 0, 1) := by decide +kernel
theorem d_M_assembly_1 : decode c_M_assembly 1 = .ok (.iload_n 1, 1) := by decide +kernel
theorem d_M_assembly_2 : decode c_M_assembly 2 = .ok (.invokestatic 108, 3) := by decide +kernel
theorem d_M_assembly_5 : decode c_M_assembly 5 = .ok (.ifCond .ne 7, 3) := by decide +kernel
theorem d_M_assembly_8 : decode c_M_assembly 8 = .ok (.iconst 1, 1) := by decide +kernel
theorem d_M_assembly_9 : decode c_M_assembly 9 = .ok (.goto 19, 3) := by decide +kernel
theorem d_M_assembly_12 : decode c_M_assembly 12 = .ok (.lload_n 2, 1) := by decide +kernel
theorem d_M_assembly_13 : decode c_M_assembly 13 = .ok (.lconst 0, 1) := by decide +kernel
theorem d_M_assembly_14 : decode c_M_assembly 14 = .ok (.ldc2_w 111, 3) := by decide +kernel
theorem d_M_assembly_17 : decode c_M_assembly 17 = .ok (.invokestatic 89, 3) := by decide +kernel
theorem d_M_assembly_20 : decode c_M_assembly 20 = .ok (.ifCond .eq 7, 3) := by decide +kernel
theorem d_M_assembly_23 : decode c_M_assembly 23 = .ok (.iconst 0, 1) := by decide +kernel
theorem d_M_assembly_24 : decode c_M_assembly 24 = .ok (.goto 4, 3) := by decide +kernel
theorem d_M_assembly_27 : decode c_M_assembly 27 = .ok (.iconst 2, 1) := by decide +kernel
theorem d_M_assembly_28 : decode c_M_assembly 28 = .ok (.putfield 80, 3) := by decide +kernel
theorem d_M_assembly_31 : decode c_M_assembly 31 = .ok (.aload_n 0, 1) := by decide +kernel
theorem d_M_assembly_32 : decode c_M_assembly 32 = .ok (.getfield 80, 3) := by decide +kernel
theorem d_M_assembly_35 : decode c_M_assembly 35 = .ok (.ifCond .ne 14, 3) := by decide +kernel
theorem d_M_assembly_38 : decode c_M_assembly 38 = .ok (.aload_n 0, 1) := by decide +kernel
theorem d_M_assembly_39 : decode c_M_assembly 39 = .ok (.getfield 29, 3) := by decide +kernel
theorem d_M_assembly_42 : decode c_M_assembly 42 = .ok (.iload_n 1, 1) := by decide +kernel
theorem d_M_assembly_43 : decode c_M_assembly 43 = .ok (.laload, 1) := by decide +kernel
theorem d_M_assembly_44 : decode c_M_assembly 44 = .ok (.lload_n 2, 1) := by decide +kernel
theorem d_M_assembly_45 : decode c_M_assembly 45 = .ok (.lcmp, 1) := by decide +kernel
theorem d_M_assembly_46 : decode c_M_assembly 46 = .ok (.ifCond .ne 5, 3) := by decide +kernel
theorem d_M_assembly_49 : decode c_M_assembly 49 = .ok (.iconst 0, 1) := by decide +kernel
theorem d_M_assembly_50 : decode c_M_assembly 50 = .ok (.ireturn, 1) := by decide +kernel
theorem d_M_assembly_51 : decode c_M_assembly 51 = .ok (.aload_n 0, 1) := by decide +kernel
theorem d_M_assembly_52 : decode c_M_assembly 52 = .ok (.getfield 29, 3) := by decide +kernel
theorem d_M_assembly_55 : decode c_M_assembly 55 = .ok (.iload_n 1, 1) := by decide +kernel
theorem d_M_assembly_56 : decode c_M_assembly 56 = .ok (.lload_n 2, 1) := by decide +kernel
theorem d_M_assembly_57 : decode c_M_assembly 57 = .ok (.lastore, 1) := by decide +kernel
theorem d_M_assembly_58 : decode c_M_assembly 58 = .ok (.iconst 1, 1) := by decide +kernel
theorem d_M_assembly_59 : decode c_M_assembly 59 = .ok (.ireturn, 1) := by decide +kernel
theorem d_M_placed_0 : decode c_M_placed 0 = .ok (.aload_n 0, 1) := by decide +kernel
theorem d_M_placed_1 : decode c_M_placed 1 = .ok (.iload_n 1, 1) := by decide +kernel
theorem d_M_placed_2 : decode c_M_placed 2 = .ok (.invokestatic 108, 3) := by decide +kernel
theorem d_M_placed_5 : decode c_M_placed 5 = .ok (.ifCond .ne 7, 3) := by decide +kernel
theorem d_M_placed_8 : decode c_M_placed 8 = .ok (.iconst 1, 1) := by decide +kernel
theorem d_M_placed_9 : decode c_M_placed 9 = .ok (.goto 19, 3) := by decide +kernel
theorem d_M_placed_12 : decode c_M_placed 12 = .ok (.lload_n 2, 1) := by decide +kernel
theorem d_M_placed_13 : decode c_M_placed 13 = .ok (.lconst 0, 1) := by decide +kernel
theorem d_M_placed_14 : decode c_M_placed 14 = .ok (.ldc2_w 106, 3) := by decide +kernel
theorem d_M_placed_17 : decode c_M_placed 17 = .ok (.invokestatic 89, 3) := by decide +kernel
theorem d_M_placed_20 : decode c_M_placed 20 = .ok (.ifCond .eq 7, 3) := by decide +kernel
theorem d_M_placed_23 : decode c_M_placed 23 = .ok (.iconst 0, 1) := by decide +kernel
theorem d_M_placed_24 : decode c_M_placed 24 = .ok (.goto 4, 3) := by decide +kernel
theorem d_M_placed_27 : decode c_M_placed 27 = .ok (.iconst 2, 1) := by decide +kernel
theorem d_M_placed_28 : decode c_M_placed 28 = .ok (.putfield 80, 3) := by decide +kernel
theorem d_M_placed_31 : decode c_M_placed 31 = .ok (.aload_n 0, 1) := by decide +kernel
theorem d_M_placed_32 : decode c_M_placed 32 = .ok (.getfield 80, 3) := by decide +kernel
theorem d_M_placed_35 : decode c_M_placed 35 = .ok (.ifCond .ne 14, 3) := by decide +kernel
theorem d_M_placed_38 : decode c_M_placed 38 = .ok (.aload_n 0, 1) := by decide +kernel
theorem d_M_placed_39 : decode c_M_placed 39 = .ok (.getfield 32, 3) := by decide +kernel
theorem d_M_placed_42 : decode c_M_placed 42 = .ok (.iload_n 1, 1) := by decide +kernel
theorem d_M_placed_43 : decode c_M_placed 43 = .ok (.laload, 1) := by decide +kernel
theorem d_M_placed_44 : decode c_M_placed 44 = .ok (.lload_n 2, 1) := by decide +kernel
theorem d_M_placed_45 : decode c_M_placed 45 = .ok (.lcmp, 1) := by decide +kernel
theorem d_M_placed_46 : decode c_M_placed 46 = .ok (.ifCond .ne 5, 3) := by decide +kernel
theorem d_M_placed_49 : decode c_M_placed 49 = .ok (.iconst 0, 1) := by decide +kernel
theorem d_M_placed_50 : decode c_M_placed 50 = .ok (.ireturn, 1) := by decide +kernel
theorem d_M_placed_51 : decode c_M_placed 51 = .ok (.aload_n 0, 1) := by decide +kernel
theorem d_M_placed_52 : decode c_M_placed 52 = .ok (.getfield 32, 3) := by decide +kernel
theorem d_M_placed_55 : decode c_M_placed 55 = .ok (.iload_n 1, 1) := by decide +kernel
theorem d_M_placed_56 : decode c_M_placed 56 = .ok (.lload_n 2, 1) := by decide +kernel
theorem d_M_placed_57 : decode c_M_placed 57 = .ok (.lastore, 1) := by decide +kernel
theorem d_M_placed_58 : decode c_M_placed 58 = .ok (.iconst 1, 1) := by decide +kernel
theorem d_M_placed_59 : decode c_M_placed 59 = .ok (.ireturn, 1) := by decide +kernel
theorem d_M_yieldOf_0 : decode c_M_yieldOf 0 = .ok (.aload_n 0, 1) := by decide +kernel
theorem d_M_yieldOf_1 : decode c_M_yieldOf 1 = .ok (.lload_n 1, 1) := by decide +kernel
theorem d_M_yieldOf_2 : decode c_M_yieldOf 2 = .ok (.lconst 1, 1) := by decide +kernel
theorem d_M_yieldOf_3 : decode c_M_yieldOf 3 = .ok (.lcmp, 1) := by decide +kernel
theorem d_M_yieldOf_4 : decode c_M_yieldOf 4 = .ok (.ifCond .lt 21, 3) := by decide +kernel
theorem d_M_yieldOf_7 : decode c_M_yieldOf 7 = .ok (.lload_n 1, 1) := by decide +kernel
theorem d_M_yieldOf_8 : decode c_M_yieldOf 8 = .ok (.lload_n 3, 1) := by decide +kernel
theorem d_M_yieldOf_9 : decode c_M_yieldOf 9 = .ok (.lcmp, 1) := by decide +kernel
theorem d_M_yieldOf_10 : decode c_M_yieldOf 10 = .ok (.ifCond .gt 15, 3) := by decide +kernel
theorem d_M_yieldOf_13 : decode c_M_yieldOf 13 = .ok (.lload_n 3, 1) := by decide +kernel
theorem d_M_yieldOf_14 : decode c_M_yieldOf 14 = .ok (.ldc2_w 106, 3) := by decide +kernel
theorem d_M_yieldOf_17 : decode c_M_yieldOf 17 = .ok (.lcmp, 1) := by decide +kernel
theorem d_M_yieldOf_18 : decode c_M_yieldOf 18 = .ok (.ifCond .gt 7, 3) := by decide +kernel
theorem d_M_yieldOf_21 : decode c_M_yieldOf 21 = .ok (.iconst 0, 1) := by decide +kernel
theorem d_M_yieldOf_22 : decode c_M_yieldOf 22 = .ok (.goto 4, 3) := by decide +kernel
theorem d_M_yieldOf_25 : decode c_M_yieldOf 25 = .ok (.iconst 1, 1) := by decide +kernel
theorem d_M_yieldOf_26 : decode c_M_yieldOf 26 = .ok (.putfield 80, 3) := by decide +kernel
theorem d_M_yieldOf_29 : decode c_M_yieldOf 29 = .ok (.aload_n 0, 1) := by decide +kernel
theorem d_M_yieldOf_30 : decode c_M_yieldOf 30 = .ok (.getfield 80, 3) := by decide +kernel
theorem d_M_yieldOf_33 : decode c_M_yieldOf 33 = .ok (.ifCond .ne 12, 3) := by decide +kernel
theorem d_M_yieldOf_36 : decode c_M_yieldOf 36 = .ok (.aload_n 0, 1) := by decide +kernel
theorem d_M_yieldOf_37 : decode c_M_yieldOf 37 = .ok (.getfield 113, 3) := by decide +kernel
theorem d_M_yieldOf_40 : decode c_M_yieldOf 40 = .ok (.bipush 8, 2) := by decide +kernel
theorem d_M_yieldOf_42 : decode c_M_yieldOf 42 = .ok (.if_icmp .ne 5, 3) := by decide +kernel
theorem d_M_yieldOf_45 : decode c_M_yieldOf 45 = .ok (.iconst 0, 1) := by decide +kernel
theorem d_M_yieldOf_46 : decode c_M_yieldOf 46 = .ok (.ireturn, 1) := by decide +kernel
theorem d_M_yieldOf_47 : decode c_M_yieldOf 47 = .ok (.aload_n 0, 1) := by decide +kernel
theorem d_M_yieldOf_48 : decode c_M_yieldOf 48 = .ok (.getfield 35, 3) := by decide +kernel
theorem d_M_yieldOf_51 : decode c_M_yieldOf 51 = .ok (.aload_n 0, 1) := by decide +kernel
theorem d_M_yieldOf_52 : decode c_M_yieldOf 52 = .ok (.getfield 113, 3) := by decide +kernel
theorem d_M_yieldOf_55 : decode c_M_yieldOf 55 = .ok (.lload_n 1, 1) := by decide +kernel
theorem d_M_yieldOf_56 : decode c_M_yieldOf 56 = .ok (.lastore, 1) := by decide +kernel
theorem d_M_yieldOf_57 : decode c_M_yieldOf 57 = .ok (.aload_n 0, 1) := by decide +kernel
theorem d_M_yieldOf_58 : decode c_M_yieldOf 58 = .ok (.getfield 38, 3) := by decide +kernel
theorem d_M_yieldOf_61 : decode c_M_yieldOf 61 = .ok (.aload_n 0, 1) := by decide +kernel
theorem d_M_yieldOf_62 : decode c_M_yieldOf 62 = .ok (.getfield 113, 3) := by decide +kernel
theorem d_M_yieldOf_65 : decode c_M_yieldOf 65 = .ok (.lload_n 3, 1) := by decide +kernel
theorem d_M_yieldOf_66 : decode c_M_yieldOf 66 = .ok (.lastore, 1) := by decide +kernel
theorem d_M_yieldOf_67 : decode c_M_yieldOf 67 = .ok (.aload_n 0, 1) := by decide +kernel
theorem d_M_yieldOf_68 : decode c_M_yieldOf 68 = .ok (.dup, 1) := by decide +kernel
theorem d_M_yieldOf_69 : decode c_M_yieldOf 69 = .ok (.getfield 113, 3) := by decide +kernel
theorem d_M_yieldOf_72 : decode c_M_yieldOf 72 = .ok (.iconst 1, 1) := by decide +kernel
theorem d_M_yieldOf_73 : decode c_M_yieldOf 73 = .ok (.iadd, 1) := by decide +kernel
theorem d_M_yieldOf_74 : decode c_M_yieldOf 74 = .ok (.putfield 113, 3) := by decide +kernel
theorem d_M_yieldOf_77 : decode c_M_yieldOf 77 = .ok (.iconst 1, 1) := by decide +kernel
theorem d_M_yieldOf_78 : decode c_M_yieldOf 78 = .ok (.ireturn, 1) := by decide +kernel
theorem d_M_currency_0 : decode c_M_currency 0 = .ok (.lload 4, 2) := by decide +kernel
theorem d_M_currency_2 : decode c_M_currency 2 = .ok (.lconst 1, 1) := by decide +kernel
theorem d_M_currency_3 : decode c_M_currency 3 = .ok (.ldc2_w 106, 3) := by decide +kernel
theorem d_M_currency_6 : decode c_M_currency 6 = .ok (.invokestatic 89, 3) := by decide +kernel
theorem d_M_currency_9 : decode c_M_currency 9 = .ok (.ifCond .eq 19, 3) := by decide +kernel
theorem d_M_currency_12 : decode c_M_currency 12 = .ok (.lload 6, 2) := by decide +kernel
theorem d_M_currency_14 : decode c_M_currency 14 = .ok (.lconst 1, 1) := by decide +kernel
theorem d_M_currency_15 : decode c_M_currency 15 = .ok (.ldc2_w 106, 3) := by decide +kernel
theorem d_M_currency_18 : decode c_M_currency 18 = .ok (.invokestatic 89, 3) := by decide +kernel
theorem d_M_currency_21 : decode c_M_currency 21 = .ok (.ifCond .eq 7, 3) := by decide +kernel
theorem d_M_currency_24 : decode c_M_currency 24 = .ok (.iconst 1, 1) := by decide +kernel
theorem d_M_currency_25 : decode c_M_currency 25 = .ok (.goto 4, 3) := by decide +kernel
theorem d_M_currency_28 : decode c_M_currency 28 = .ok (.iconst 0, 1) := by decide +kernel
theorem d_M_currency_29 : decode c_M_currency 29 = .ok (.istore 8, 2) := by decide +kernel
theorem d_M_currency_31 : decode c_M_currency 31 = .ok (.aload_n 0, 1) := by decide +kernel
theorem d_M_currency_32 : decode c_M_currency 32 = .ok (.iload_n 1, 1) := by decide +kernel
theorem d_M_currency_33 : decode c_M_currency 33 = .ok (.invokestatic 99, 3) := by decide +kernel
theorem d_M_currency_36 : decode c_M_currency 36 = .ok (.ifCond .ne 7, 3) := by decide +kernel
theorem d_M_currency_39 : decode c_M_currency 39 = .ok (.iconst 1, 1) := by decide +kernel
theorem d_M_currency_40 : decode c_M_currency 40 = .ok (.goto 13, 3) := by decide +kernel
theorem d_M_currency_43 : decode c_M_currency 43 = .ok (.iload 8, 2) := by decide +kernel
theorem d_M_currency_45 : decode c_M_currency 45 = .ok (.ifCond .eq 7, 3) := by decide +kernel
theorem d_M_currency_48 : decode c_M_currency 48 = .ok (.iconst 0, 1) := by decide +kernel
theorem d_M_currency_49 : decode c_M_currency 49 = .ok (.goto 4, 3) := by decide +kernel
theorem d_M_currency_52 : decode c_M_currency 52 = .ok (.iconst 2, 1) := by decide +kernel
theorem d_M_currency_53 : decode c_M_currency 53 = .ok (.putfield 80, 3) := by decide +kernel
theorem d_M_currency_56 : decode c_M_currency 56 = .ok (.aload_n 0, 1) := by decide +kernel
theorem d_M_currency_57 : decode c_M_currency 57 = .ok (.getfield 80, 3) := by decide +kernel
theorem d_M_currency_60 : decode c_M_currency 60 = .ok (.ifCond .eq 5, 3) := by decide +kernel
theorem d_M_currency_63 : decode c_M_currency 63 = .ok (.iconst 0, 1) := by decide +kernel
theorem d_M_currency_64 : decode c_M_currency 64 = .ok (.ireturn, 1) := by decide +kernel
theorem d_M_currency_65 : decode c_M_currency 65 = .ok (.bipush 6, 2) := by decide +kernel
theorem d_M_currency_67 : decode c_M_currency 67 = .ok (.iload_n 1, 1) := by decide +kernel
theorem d_M_currency_68 : decode c_M_currency 68 = .ok (.imul, 1) := by decide +kernel
theorem d_M_currency_69 : decode c_M_currency 69 = .ok (.istore 9, 2) := by decide +kernel
theorem d_M_currency_71 : decode c_M_currency 71 = .ok (.iload 9, 2) := by decide +kernel
theorem d_M_currency_73 : decode c_M_currency 73 = .ok (.bipush 6, 2) := by decide +kernel
theorem d_M_currency_75 : decode c_M_currency 75 = .ok (.iload_n 1, 1) := by decide +kernel
theorem d_M_currency_76 : decode c_M_currency 76 = .ok (.imul, 1) := by decide +kernel
theorem d_M_currency_77 : decode c_M_currency 77 = .ok (.aload_n 0, 1) := by decide +kernel
theorem d_M_currency_78 : decode c_M_currency 78 = .ok (.getfield 41, 3) := by decide +kernel
theorem d_M_currency_81 : decode c_M_currency 81 = .ok (.iload_n 1, 1) := by decide +kernel
theorem d_M_currency_82 : decode c_M_currency 82 = .ok (.iaload, 1) := by decide +kernel
theorem d_M_currency_83 : decode c_M_currency 83 = .ok (.iadd, 1) := by decide +kernel
theorem d_M_currency_84 : decode c_M_currency 84 = .ok (.if_icmp .ge 21, 3) := by decide +kernel
theorem d_M_currency_87 : decode c_M_currency 87 = .ok (.aload_n 0, 1) := by decide +kernel
theorem d_M_currency_88 : decode c_M_currency 88 = .ok (.getfield 44, 3) := by decide +kernel
theorem d_M_currency_91 : decode c_M_currency 91 = .ok (.iload 9, 2) := by decide +kernel
theorem d_M_currency_93 : decode c_M_currency 93 = .ok (.laload, 1) := by decide +kernel
theorem d_M_currency_94 : decode c_M_currency 94 = .ok (.lload_n 2, 1) := by decide +kernel
theorem d_M_currency_95 : decode c_M_currency 95 = .ok (.lcmp, 1) := by decide +kernel
theorem d_M_currency_96 : decode c_M_currency 96 = .ok (.ifCond .eq 9, 3) := by decide +kernel
theorem d_M_currency_99 : decode c_M_currency 99 = .ok (.iinc 9 1, 3) := by decide +kernel
theorem d_M_currency_102 : decode c_M_currency 102 = .ok (.goto (-31), 3) := by decide +kernel
theorem d_M_currency_105 : decode c_M_currency 105 = .ok (.iload 9, 2) := by decide +kernel
theorem d_M_currency_107 : decode c_M_currency 107 = .ok (.bipush 6, 2) := by decide +kernel
theorem d_M_currency_109 : decode c_M_currency 109 = .ok (.iload_n 1, 1) := by decide +kernel
theorem d_M_currency_110 : decode c_M_currency 110 = .ok (.imul, 1) := by decide +kernel
theorem d_M_currency_111 : decode c_M_currency 111 = .ok (.aload_n 0, 1) := by decide +kernel
theorem d_M_currency_112 : decode c_M_currency 112 = .ok (.getfield 41, 3) := by decide +kernel
theorem d_M_currency_115 : decode c_M_currency 115 = .ok (.iload_n 1, 1) := by decide +kernel
theorem d_M_currency_116 : decode c_M_currency 116 = .ok (.iaload, 1) := by decide +kernel
theorem d_M_currency_117 : decode c_M_currency 117 = .ok (.iadd, 1) := by decide +kernel
theorem d_M_currency_118 : decode c_M_currency 118 = .ok (.if_icmp .ge 7, 3) := by decide +kernel
theorem d_M_currency_121 : decode c_M_currency 121 = .ok (.iconst 1, 1) := by decide +kernel
theorem d_M_currency_122 : decode c_M_currency 122 = .ok (.goto 4, 3) := by decide +kernel
theorem d_M_currency_125 : decode c_M_currency 125 = .ok (.iconst 0, 1) := by decide +kernel
theorem d_M_currency_126 : decode c_M_currency 126 = .ok (.istore 10, 2) := by decide +kernel
theorem d_M_currency_128 : decode c_M_currency 128 = .ok (.iload 10, 2) := by decide +kernel
theorem d_M_currency_130 : decode c_M_currency 130 = .ok (.ifCond .eq 32, 3) := by decide +kernel
theorem d_M_currency_133 : decode c_M_currency 133 = .ok (.aload_n 0, 1) := by decide +kernel
theorem d_M_currency_134 : decode c_M_currency 134 = .ok (.getfield 47, 3) := by decide +kernel
theorem d_M_currency_137 : decode c_M_currency 137 = .ok (.iload 9, 2) := by decide +kernel
theorem d_M_currency_139 : decode c_M_currency 139 = .ok (.laload, 1) := by decide +kernel
theorem d_M_currency_140 : decode c_M_currency 140 = .ok (.lload 4, 2) := by decide +kernel
theorem d_M_currency_142 : decode c_M_currency 142 = .ok (.lcmp, 1) := by decide +kernel
theorem d_M_currency_143 : decode c_M_currency 143 = .ok (.ifCond .ne 32, 3) := by decide +kernel
theorem d_M_currency_146 : decode c_M_currency 146 = .ok (.aload_n 0, 1) := by decide +kernel
theorem d_M_currency_147 : decode c_M_currency 147 = .ok (.getfield 50, 3) := by decide +kernel
theorem d_M_currency_150 : decode c_M_currency 150 = .ok (.iload 9, 2) := by decide +kernel
theorem d_M_currency_152 : decode c_M_currency 152 = .ok (.laload, 1) := by decide +kernel
theorem d_M_currency_153 : decode c_M_currency 153 = .ok (.lload 6, 2) := by decide +kernel
theorem d_M_currency_155 : decode c_M_currency 155 = .ok (.lcmp, 1) := by decide +kernel
theorem d_M_currency_156 : decode c_M_currency 156 = .ok (.ifCond .ne 19, 3) := by decide +kernel
theorem d_M_currency_159 : decode c_M_currency 159 = .ok (.goto 14, 3) := by decide +kernel
theorem d_M_currency_162 : decode c_M_currency 162 = .ok (.aload_n 0, 1) := by decide +kernel
theorem d_M_currency_163 : decode c_M_currency 163 = .ok (.getfield 41, 3) := by decide +kernel
theorem d_M_currency_166 : decode c_M_currency 166 = .ok (.iload_n 1, 1) := by decide +kernel
theorem d_M_currency_167 : decode c_M_currency 167 = .ok (.iaload, 1) := by decide +kernel
theorem d_M_currency_168 : decode c_M_currency 168 = .ok (.bipush 6, 2) := by decide +kernel
theorem d_M_currency_170 : decode c_M_currency 170 = .ok (.if_icmp .ne 5, 3) := by decide +kernel
theorem d_M_currency_173 : decode c_M_currency 173 = .ok (.iconst 0, 1) := by decide +kernel
theorem d_M_currency_174 : decode c_M_currency 174 = .ok (.ireturn, 1) := by decide +kernel
theorem d_M_currency_175 : decode c_M_currency 175 = .ok (.iload 10, 2) := by decide +kernel
theorem d_M_currency_177 : decode c_M_currency 177 = .ok (.ifCond .ne 13, 3) := by decide +kernel
theorem d_M_currency_180 : decode c_M_currency 180 = .ok (.aload_n 0, 1) := by decide +kernel
theorem d_M_currency_181 : decode c_M_currency 181 = .ok (.getfield 41, 3) := by decide +kernel
theorem d_M_currency_184 : decode c_M_currency 184 = .ok (.iload_n 1, 1) := by decide +kernel
theorem d_M_currency_185 : decode c_M_currency 185 = .ok (.dup2, 1) := by decide +kernel
theorem d_M_currency_186 : decode c_M_currency 186 = .ok (.iaload, 1) := by decide +kernel
theorem d_M_currency_187 : decode c_M_currency 187 = .ok (.iconst 1, 1) := by decide +kernel
theorem d_M_currency_188 : decode c_M_currency 188 = .ok (.iadd, 1) := by decide +kernel
theorem d_M_currency_189 : decode c_M_currency 189 = .ok (.iastore, 1) := by decide +kernel
theorem d_M_currency_190 : decode c_M_currency 190 = .ok (.aload_n 0, 1) := by decide +kernel
theorem d_M_currency_191 : decode c_M_currency 191 = .ok (.getfield 44, 3) := by decide +kernel
theorem d_M_currency_194 : decode c_M_currency 194 = .ok (.iload 9, 2) := by decide +kernel
theorem d_M_currency_196 : decode c_M_currency 196 = .ok (.lload_n 2, 1) := by decide +kernel
theorem d_M_currency_197 : decode c_M_currency 197 = .ok (.lastore, 1) := by decide +kernel
theorem d_M_currency_198 : decode c_M_currency 198 = .ok (.aload_n 0, 1) := by decide +kernel
theorem d_M_currency_199 : decode c_M_currency 199 = .ok (.getfield 47, 3) := by decide +kernel
theorem d_M_currency_202 : decode c_M_currency 202 = .ok (.iload 9, 2) := by decide +kernel
theorem d_M_currency_204 : decode c_M_currency 204 = .ok (.lload 4, 2) := by decide +kernel
theorem d_M_currency_206 : decode c_M_currency 206 = .ok (.lastore, 1) := by decide +kernel
theorem d_M_currency_207 : decode c_M_currency 207 = .ok (.aload_n 0, 1) := by decide +kernel
theorem d_M_currency_208 : decode c_M_currency 208 = .ok (.getfield 50, 3) := by decide +kernel
theorem d_M_currency_211 : decode c_M_currency 211 = .ok (.iload 9, 2) := by decide +kernel
theorem d_M_currency_213 : decode c_M_currency 213 = .ok (.lload 6, 2) := by decide +kernel
theorem d_M_currency_215 : decode c_M_currency 215 = .ok (.lastore, 1) := by decide +kernel
theorem d_M_currency_216 : decode c_M_currency 216 = .ok (.iconst 1, 1) := by decide +kernel
theorem d_M_currency_217 : decode c_M_currency 217 = .ok (.ireturn, 1) := by decide +kernel
theorem d_M_tooling_0 : decode c_M_tooling 0 = .ok (.aload_n 0, 1) := by decide +kernel
theorem d_M_tooling_1 : decode c_M_tooling 1 = .ok (.lload_n 1, 1) := by decide +kernel
theorem d_M_tooling_2 : decode c_M_tooling 2 = .ok (.lconst 0, 1) := by decide +kernel
theorem d_M_tooling_3 : decode c_M_tooling 3 = .ok (.ldc2_w 87, 3) := by decide +kernel
theorem d_M_tooling_6 : decode c_M_tooling 6 = .ok (.invokestatic 89, 3) := by decide +kernel
theorem d_M_tooling_9 : decode c_M_tooling 9 = .ok (.ifCond .eq 7, 3) := by decide +kernel
theorem d_M_tooling_12 : decode c_M_tooling 12 = .ok (.iconst 0, 1) := by decide +kernel
theorem d_M_tooling_13 : decode c_M_tooling 13 = .ok (.goto 4, 3) := by decide +kernel
theorem d_M_tooling_16 : decode c_M_tooling 16 = .ok (.iconst 1, 1) := by decide +kernel
theorem d_M_tooling_17 : decode c_M_tooling 17 = .ok (.putfield 80, 3) := by decide +kernel
theorem d_M_tooling_20 : decode c_M_tooling 20 = .ok (.aload_n 0, 1) := by decide +kernel
theorem d_M_tooling_21 : decode c_M_tooling 21 = .ok (.getfield 80, 3) := by decide +kernel
theorem d_M_tooling_24 : decode c_M_tooling 24 = .ok (.ifCond .ne 12, 3) := by decide +kernel
theorem d_M_tooling_27 : decode c_M_tooling 27 = .ok (.aload_n 0, 1) := by decide +kernel
theorem d_M_tooling_28 : decode c_M_tooling 28 = .ok (.getfield 116, 3) := by decide +kernel
theorem d_M_tooling_31 : decode c_M_tooling 31 = .ok (.lload_n 1, 1) := by decide +kernel
theorem d_M_tooling_32 : decode c_M_tooling 32 = .ok (.lcmp, 1) := by decide +kernel
theorem d_M_tooling_33 : decode c_M_tooling 33 = .ok (.ifCond .ne 5, 3) := by decide +kernel
theorem d_M_tooling_36 : decode c_M_tooling 36 = .ok (.iconst 0, 1) := by decide +kernel
theorem d_M_tooling_37 : decode c_M_tooling 37 = .ok (.ireturn, 1) := by decide +kernel
theorem d_M_tooling_38 : decode c_M_tooling 38 = .ok (.aload_n 0, 1) := by decide +kernel
theorem d_M_tooling_39 : decode c_M_tooling 39 = .ok (.lload_n 1, 1) := by decide +kernel
theorem d_M_tooling_40 : decode c_M_tooling 40 = .ok (.putfield 116, 3) := by decide +kernel
theorem d_M_tooling_43 : decode c_M_tooling 43 = .ok (.iconst 1, 1) := by decide +kernel
theorem d_M_tooling_44 : decode c_M_tooling 44 = .ok (.ireturn, 1) := by decide +kernel
theorem d_M_up_0 : decode c_M_up 0 = .ok (.lload_n 0, 1) := by decide +kernel
theorem d_M_up_1 : decode c_M_up 1 = .ok (.lload_n 2, 1) := by decide +kernel
theorem d_M_up_2 : decode c_M_up 2 = .ok (.ladd, 1) := by decide +kernel
theorem d_M_up_3 : decode c_M_up 3 = .ok (.lconst 1, 1) := by decide +kernel
theorem d_M_up_4 : decode c_M_up 4 = .ok (.lsub, 1) := by decide +kernel
theorem d_M_up_5 : decode c_M_up 5 = .ok (.lload_n 2, 1) := by decide +kernel
theorem d_M_up_6 : decode c_M_up 6 = .ok (.ldiv, 1) := by decide +kernel
theorem d_M_up_7 : decode c_M_up 7 = .ok (.lreturn, 1) := by decide +kernel
theorem d_M_rateOf_0 : decode c_M_rateOf 0 = .ok (.iconst (-1), 1) := by decide +kernel
theorem d_M_rateOf_1 : decode c_M_rateOf 1 = .ok (.istore 4, 2) := by decide +kernel
theorem d_M_rateOf_3 : decode c_M_rateOf 3 = .ok (.bipush 6, 2) := by decide +kernel
theorem d_M_rateOf_5 : decode c_M_rateOf 5 = .ok (.iload_n 1, 1) := by decide +kernel
theorem d_M_rateOf_6 : decode c_M_rateOf 6 = .ok (.imul, 1) := by decide +kernel
theorem d_M_rateOf_7 : decode c_M_rateOf 7 = .ok (.istore 5, 2) := by decide +kernel
theorem d_M_rateOf_9 : decode c_M_rateOf 9 = .ok (.iload 5, 2) := by decide +kernel
theorem d_M_rateOf_11 : decode c_M_rateOf 11 = .ok (.bipush 6, 2) := by decide +kernel
theorem d_M_rateOf_13 : decode c_M_rateOf 13 = .ok (.iload_n 1, 1) := by decide +kernel
theorem d_M_rateOf_14 : decode c_M_rateOf 14 = .ok (.imul, 1) := by decide +kernel
theorem d_M_rateOf_15 : decode c_M_rateOf 15 = .ok (.aload_n 0, 1) := by decide +kernel
theorem d_M_rateOf_16 : decode c_M_rateOf 16 = .ok (.getfield 41, 3) := by decide +kernel
theorem d_M_rateOf_19 : decode c_M_rateOf 19 = .ok (.iload_n 1, 1) := by decide +kernel
theorem d_M_rateOf_20 : decode c_M_rateOf 20 = .ok (.iaload, 1) := by decide +kernel
theorem d_M_rateOf_21 : decode c_M_rateOf 21 = .ok (.iadd, 1) := by decide +kernel
theorem d_M_rateOf_22 : decode c_M_rateOf 22 = .ok (.if_icmp .ge 49, 3) := by decide +kernel
theorem d_M_rateOf_25 : decode c_M_rateOf 25 = .ok (.aload_n 0, 1) := by decide +kernel
theorem d_M_rateOf_26 : decode c_M_rateOf 26 = .ok (.getfield 44, 3) := by decide +kernel
theorem d_M_rateOf_29 : decode c_M_rateOf 29 = .ok (.iload 5, 2) := by decide +kernel
theorem d_M_rateOf_31 : decode c_M_rateOf 31 = .ok (.laload, 1) := by decide +kernel
theorem d_M_rateOf_32 : decode c_M_rateOf 32 = .ok (.lload_n 2, 1) := by decide +kernel
theorem d_M_rateOf_33 : decode c_M_rateOf 33 = .ok (.lcmp, 1) := by decide +kernel
theorem d_M_rateOf_34 : decode c_M_rateOf 34 = .ok (.ifCond .gt 31, 3) := by decide +kernel
theorem d_M_rateOf_37 : decode c_M_rateOf 37 = .ok (.iload 4, 2) := by decide +kernel
theorem d_M_rateOf_39 : decode c_M_rateOf 39 = .ok (.iconst (-1), 1) := by decide +kernel
theorem d_M_rateOf_40 : decode c_M_rateOf 40 = .ok (.if_icmp .eq 21, 3) := by decide +kernel
theorem d_M_rateOf_43 : decode c_M_rateOf 43 = .ok (.aload_n 0, 1) := by decide +kernel
theorem d_M_rateOf_44 : decode c_M_rateOf 44 = .ok (.getfield 44, 3) := by decide +kernel
theorem d_M_rateOf_47 : decode c_M_rateOf 47 = .ok (.iload 5, 2) := by decide +kernel
theorem d_M_rateOf_49 : decode c_M_rateOf 49 = .ok (.laload, 1) := by decide +kernel
theorem d_M_rateOf_50 : decode c_M_rateOf 50 = .ok (.aload_n 0, 1) := by decide +kernel
theorem d_M_rateOf_51 : decode c_M_rateOf 51 = .ok (.getfield 44, 3) := by decide +kernel
theorem d_M_rateOf_54 : decode c_M_rateOf 54 = .ok (.iload 4, 2) := by decide +kernel
theorem d_M_rateOf_56 : decode c_M_rateOf 56 = .ok (.laload, 1) := by decide +kernel
theorem d_M_rateOf_57 : decode c_M_rateOf 57 = .ok (.lcmp, 1) := by decide +kernel
theorem d_M_rateOf_58 : decode c_M_rateOf 58 = .ok (.ifCond .le 7, 3) := by decide +kernel
theorem d_M_rateOf_61 : decode c_M_rateOf 61 = .ok (.iload 5, 2) := by decide +kernel
theorem d_M_rateOf_63 : decode c_M_rateOf 63 = .ok (.istore 4, 2) := by decide +kernel
theorem d_M_rateOf_65 : decode c_M_rateOf 65 = .ok (.iinc 5 1, 3) := by decide +kernel
theorem d_M_rateOf_68 : decode c_M_rateOf 68 = .ok (.goto (-59), 3) := by decide +kernel
theorem d_M_rateOf_71 : decode c_M_rateOf 71 = .ok (.iload 4, 2) := by decide +kernel
theorem d_M_rateOf_73 : decode c_M_rateOf 73 = .ok (.ireturn, 1) := by decide +kernel
theorem d_M_offer_0 : decode c_M_offer 0 = .ok (.bipush 8, 2) := by decide +kernel
theorem d_M_offer_2 : decode c_M_offer 2 = .ok (.iload_n 2, 1) := by decide +kernel
theorem d_M_offer_3 : decode c_M_offer 3 = .ok (.imul, 1) := by decide +kernel
theorem d_M_offer_4 : decode c_M_offer 4 = .ok (.iload_n 3, 1) := by decide +kernel
theorem d_M_offer_5 : decode c_M_offer 5 = .ok (.iadd, 1) := by decide +kernel
theorem d_M_offer_6 : decode c_M_offer 6 = .ok (.istore 8, 2) := by decide +kernel
theorem d_M_offer_8 : decode c_M_offer 8 = .ok (.aload_n 0, 1) := by decide +kernel
theorem d_M_offer_9 : decode c_M_offer 9 = .ok (.iload_n 3, 1) := by decide +kernel
theorem d_M_offer_10 : decode c_M_offer 10 = .ok (.lload 6, 2) := by decide +kernel
theorem d_M_offer_12 : decode c_M_offer 12 = .ok (.invokevirtual 120, 3) := by decide +kernel
theorem d_M_offer_15 : decode c_M_offer 15 = .ok (.istore 9, 2) := by decide +kernel
theorem d_M_offer_17 : decode c_M_offer 17 = .ok (.bipush 6, 2) := by decide +kernel
theorem d_M_offer_19 : decode c_M_offer 19 = .ok (.iload 8, 2) := by decide +kernel
theorem d_M_offer_21 : decode c_M_offer 21 = .ok (.imul, 1) := by decide +kernel
theorem d_M_offer_22 : decode c_M_offer 22 = .ok (.istore 10, 2) := by decide +kernel
theorem d_M_offer_24 : decode c_M_offer 24 = .ok (.iload 10, 2) := by decide +kernel
theorem d_M_offer_26 : decode c_M_offer 26 = .ok (.bipush 6, 2) := by decide +kernel
theorem d_M_offer_28 : decode c_M_offer 28 = .ok (.iload 8, 2) := by decide +kernel
theorem d_M_offer_30 : decode c_M_offer 30 = .ok (.imul, 1) := by decide +kernel
theorem d_M_offer_31 : decode c_M_offer 31 = .ok (.aload_n 0, 1) := by decide +kernel
theorem d_M_offer_32 : decode c_M_offer 32 = .ok (.getfield 7, 3) := by decide +kernel
theorem d_M_offer_35 : decode c_M_offer 35 = .ok (.iload 8, 2) := by decide +kernel
theorem d_M_offer_37 : decode c_M_offer 37 = .ok (.iaload, 1) := by decide +kernel
theorem d_M_offer_38 : decode c_M_offer 38 = .ok (.iadd, 1) := by decide +kernel
theorem d_M_offer_39 : decode c_M_offer 39 = .ok (.if_icmp .ge 197, 3) := by decide +kernel
theorem d_M_offer_42 : decode c_M_offer 42 = .ok (.aload_n 0, 1) := by decide +kernel
theorem d_M_offer_43 : decode c_M_offer 43 = .ok (.getfield 13, 3) := by decide +kernel
theorem d_M_offer_46 : decode c_M_offer 46 = .ok (.iload 10, 2) := by decide +kernel
theorem d_M_offer_48 : decode c_M_offer 48 = .ok (.laload, 1) := by decide +kernel
theorem d_M_offer_49 : decode c_M_offer 49 = .ok (.lload 4, 2) := by decide +kernel
theorem d_M_offer_51 : decode c_M_offer 51 = .ok (.lcmp, 1) := by decide +kernel
theorem d_M_offer_52 : decode c_M_offer 52 = .ok (.ifCond .le 13, 3) := by decide +kernel
theorem d_M_offer_55 : decode c_M_offer 55 = .ok (.aload_n 0, 1) := by decide +kernel
theorem d_M_offer_56 : decode c_M_offer 56 = .ok (.getfield 13, 3) := by decide +kernel
theorem d_M_offer_59 : decode c_M_offer 59 = .ok (.iload 10, 2) := by decide +kernel
theorem d_M_offer_61 : decode c_M_offer 61 = .ok (.laload, 1) := by decide +kernel
theorem d_M_offer_62 : decode c_M_offer 62 = .ok (.goto 5, 3) := by decide +kernel
theorem d_M_offer_65 : decode c_M_offer 65 = .ok (.lload 4, 2) := by decide +kernel
theorem d_M_offer_67 : decode c_M_offer 67 = .ok (.lstore 11, 2) := by decide +kernel
theorem d_M_offer_69 : decode c_M_offer 69 = .ok (.iload 9, 2) := by decide +kernel
theorem d_M_offer_71 : decode c_M_offer 71 = .ok (.iconst (-1), 1) := by decide +kernel
theorem d_M_offer_72 : decode c_M_offer 72 = .ok (.if_icmp .ne 16, 3) := by decide +kernel
theorem d_M_offer_75 : decode c_M_offer 75 = .ok (.lload 11, 2) := by decide +kernel
theorem d_M_offer_77 : decode c_M_offer 77 = .ok (.aload_n 0, 1) := by decide +kernel
theorem d_M_offer_78 : decode c_M_offer 78 = .ok (.getfield 17, 3) := by decide +kernel
theorem d_M_offer_81 : decode c_M_offer 81 = .ok (.iload 10, 2) := by decide +kernel
theorem d_M_offer_83 : decode c_M_offer 83 = .ok (.laload, 1) := by decide +kernel
theorem d_M_offer_84 : decode c_M_offer 84 = .ok (.lmul, 1) := by decide +kernel
theorem d_M_offer_85 : decode c_M_offer 85 = .ok (.goto 31, 3) := by decide +kernel
theorem d_M_offer_88 : decode c_M_offer 88 = .ok (.lload 11, 2) := by decide +kernel
theorem d_M_offer_90 : decode c_M_offer 90 = .ok (.aload_n 0, 1) := by decide +kernel
theorem d_M_offer_91 : decode c_M_offer 91 = .ok (.getfield 17, 3) := by decide +kernel
theorem d_M_offer_94 : decode c_M_offer 94 = .ok (.iload 10, 2) := by decide +kernel
theorem d_M_offer_96 : decode c_M_offer 96 = .ok (.laload, 1) := by decide +kernel
theorem d_M_offer_97 : decode c_M_offer 97 = .ok (.lmul, 1) := by decide +kernel
theorem d_M_offer_98 : decode c_M_offer 98 = .ok (.aload_n 0, 1) := by decide +kernel
theorem d_M_offer_99 : decode c_M_offer 99 = .ok (.getfield 47, 3) := by decide +kernel
theorem d_M_offer_102 : decode c_M_offer 102 = .ok (.iload 9, 2) := by decide +kernel
theorem d_M_offer_104 : decode c_M_offer 104 = .ok (.laload, 1) := by decide +kernel
theorem d_M_offer_105 : decode c_M_offer 105 = .ok (.lmul, 1) := by decide +kernel
theorem d_M_offer_106 : decode c_M_offer 106 = .ok (.aload_n 0, 1) := by decide +kernel
theorem d_M_offer_107 : decode c_M_offer 107 = .ok (.getfield 50, 3) := by decide +kernel
theorem d_M_offer_110 : decode c_M_offer 110 = .ok (.iload 9, 2) := by decide +kernel
theorem d_M_offer_112 : decode c_M_offer 112 = .ok (.laload, 1) := by decide +kernel
theorem d_M_offer_113 : decode c_M_offer 113 = .ok (.invokestatic 124, 3) := by decide +kernel
theorem d_M_offer_116 : decode c_M_offer 116 = .ok (.lstore 13, 2) := by decide +kernel
theorem d_M_offer_118 : decode c_M_offer 118 = .ok (.aload_n 0, 1) := by decide +kernel
theorem d_M_offer_119 : decode c_M_offer 119 = .ok (.getfield 56, 3) := by decide +kernel
theorem d_M_offer_122 : decode c_M_offer 122 = .ok (.iload_n 1, 1) := by decide +kernel
theorem d_M_offer_123 : decode c_M_offer 123 = .ok (.laload, 1) := by decide +kernel
theorem d_M_offer_124 : decode c_M_offer 124 = .ok (.lconst 0, 1) := by decide +kernel
theorem d_M_offer_125 : decode c_M_offer 125 = .ok (.lcmp, 1) := by decide +kernel
theorem d_M_offer_126 : decode c_M_offer 126 = .ok (.ifCond .eq 59, 3) := by decide +kernel
theorem d_M_offer_129 : decode c_M_offer 129 = .ok (.lload 13, 2) := by decide +kernel
theorem d_M_offer_131 : decode c_M_offer 131 = .ok (.aload_n 0, 1) := by decide +kernel
theorem d_M_offer_132 : decode c_M_offer 132 = .ok (.getfield 53, 3) := by decide +kernel
theorem d_M_offer_135 : decode c_M_offer 135 = .ok (.iload_n 1, 1) := by decide +kernel
theorem d_M_offer_136 : decode c_M_offer 136 = .ok (.laload, 1) := by decide +kernel
theorem d_M_offer_137 : decode c_M_offer 137 = .ok (.lcmp, 1) := by decide +kernel
theorem d_M_offer_138 : decode c_M_offer 138 = .ok (.ifCond .lt 47, 3) := by decide +kernel
theorem d_M_offer_141 : decode c_M_offer 141 = .ok (.lload 13, 2) := by decide +kernel
theorem d_M_offer_143 : decode c_M_offer 143 = .ok (.aload_n 0, 1) := by decide +kernel
theorem d_M_offer_144 : decode c_M_offer 144 = .ok (.getfield 53, 3) := by decide +kernel
theorem d_M_offer_147 : decode c_M_offer 147 = .ok (.iload_n 1, 1) := by decide +kernel
theorem d_M_offer_148 : decode c_M_offer 148 = .ok (.laload, 1) := by decide +kernel
theorem d_M_offer_149 : decode c_M_offer 149 = .ok (.lcmp, 1) := by decide +kernel
theorem d_M_offer_150 : decode c_M_offer 150 = .ok (.ifCond .ne 39, 3) := by decide +kernel
theorem d_M_offer_153 : decode c_M_offer 153 = .ok (.aload_n 0, 1) := by decide +kernel
theorem d_M_offer_154 : decode c_M_offer 154 = .ok (.getfield 59, 3) := by decide +kernel
theorem d_M_offer_157 : decode c_M_offer 157 = .ok (.iload_n 1, 1) := by decide +kernel
theorem d_M_offer_158 : decode c_M_offer 158 = .ok (.iaload, 1) := by decide +kernel
theorem d_M_offer_159 : decode c_M_offer 159 = .ok (.iload_n 3, 1) := by decide +kernel
theorem d_M_offer_160 : decode c_M_offer 160 = .ok (.if_icmp .ne 29, 3) := by decide +kernel
theorem d_M_offer_163 : decode c_M_offer 163 = .ok (.aload_n 0, 1) := by decide +kernel
theorem d_M_offer_164 : decode c_M_offer 164 = .ok (.getfield 62, 3) := by decide +kernel
theorem d_M_offer_167 : decode c_M_offer 167 = .ok (.iload_n 1, 1) := by decide +kernel
theorem d_M_offer_168 : decode c_M_offer 168 = .ok (.iaload, 1) := by decide +kernel
theorem d_M_offer_169 : decode c_M_offer 169 = .ok (.iload_n 2, 1) := by decide +kernel
theorem d_M_offer_170 : decode c_M_offer 170 = .ok (.if_icmp .ne 19, 3) := by decide +kernel
theorem d_M_offer_173 : decode c_M_offer 173 = .ok (.lload 11, 2) := by decide +kernel
theorem d_M_offer_175 : decode c_M_offer 175 = .ok (.aload_n 0, 1) := by decide +kernel
theorem d_M_offer_176 : decode c_M_offer 176 = .ok (.getfield 56, 3) := by decide +kernel
theorem d_M_offer_179 : decode c_M_offer 179 = .ok (.iload_n 1, 1) := by decide +kernel
theorem d_M_offer_180 : decode c_M_offer 180 = .ok (.laload, 1) := by decide +kernel
theorem d_M_offer_181 : decode c_M_offer 181 = .ok (.lcmp, 1) := by decide +kernel
theorem d_M_offer_182 : decode c_M_offer 182 = .ok (.ifCond .ge 7, 3) := by decide +kernel
theorem d_M_offer_185 : decode c_M_offer 185 = .ok (.iconst 1, 1) := by decide +kernel
theorem d_M_offer_186 : decode c_M_offer 186 = .ok (.goto 4, 3) := by decide +kernel
theorem d_M_offer_189 : decode c_M_offer 189 = .ok (.iconst 0, 1) := by decide +kernel
theorem d_M_offer_190 : decode c_M_offer 190 = .ok (.istore 15, 2) := by decide +kernel
theorem d_M_offer_192 : decode c_M_offer 192 = .ok (.iload 15, 2) := by decide +kernel
theorem d_M_offer_194 : decode c_M_offer 194 = .ok (.ifCond .ne 6, 3) := by decide +kernel
theorem d_M_offer_197 : decode c_M_offer 197 = .ok (.goto 33, 3) := by decide +kernel
theorem d_M_offer_200 : decode c_M_offer 200 = .ok (.aload_n 0, 1) := by decide +kernel
theorem d_M_offer_201 : decode c_M_offer 201 = .ok (.getfield 53, 3) := by decide +kernel
theorem d_M_offer_204 : decode c_M_offer 204 = .ok (.iload_n 1, 1) := by decide +kernel
theorem d_M_offer_205 : decode c_M_offer 205 = .ok (.lload 13, 2) := by decide +kernel
theorem d_M_offer_207 : decode c_M_offer 207 = .ok (.lastore, 1) := by decide +kernel
theorem d_M_offer_208 : decode c_M_offer 208 = .ok (.aload_n 0, 1) := by decide +kernel
theorem d_M_offer_209 : decode c_M_offer 209 = .ok (.getfield 56, 3) := by decide +kernel
theorem d_M_offer_212 : decode c_M_offer 212 = .ok (.iload_n 1, 1) := by decide +kernel
theorem d_M_offer_213 : decode c_M_offer 213 = .ok (.lload 11, 2) := by decide +kernel
theorem d_M_offer_215 : decode c_M_offer 215 = .ok (.lastore, 1) := by decide +kernel
theorem d_M_offer_216 : decode c_M_offer 216 = .ok (.aload_n 0, 1) := by decide +kernel
theorem d_M_offer_217 : decode c_M_offer 217 = .ok (.getfield 59, 3) := by decide +kernel
theorem d_M_offer_220 : decode c_M_offer 220 = .ok (.iload_n 1, 1) := by decide +kernel
theorem d_M_offer_221 : decode c_M_offer 221 = .ok (.iload_n 3, 1) := by decide +kernel
theorem d_M_offer_222 : decode c_M_offer 222 = .ok (.iastore, 1) := by decide +kernel
theorem d_M_offer_223 : decode c_M_offer 223 = .ok (.aload_n 0, 1) := by decide +kernel
theorem d_M_offer_224 : decode c_M_offer 224 = .ok (.getfield 62, 3) := by decide +kernel
theorem d_M_offer_227 : decode c_M_offer 227 = .ok (.iload_n 1, 1) := by decide +kernel
theorem d_M_offer_228 : decode c_M_offer 228 = .ok (.iload_n 2, 1) := by decide +kernel
theorem d_M_offer_229 : decode c_M_offer 229 = .ok (.iastore, 1) := by decide +kernel
theorem d_M_offer_230 : decode c_M_offer 230 = .ok (.iinc 10 1, 3) := by decide +kernel
theorem d_M_offer_233 : decode c_M_offer 233 = .ok (.goto (-209), 3) := by decide +kernel
theorem d_M_offer_236 : decode c_M_offer 236 = .ok (.return_, 1) := by decide +kernel
theorem d_M_started_0 : decode c_M_started 0 = .ok (.lload_n 1, 1) := by decide +kernel
theorem d_M_started_1 : decode c_M_started 1 = .ok (.lstore_n 3, 1) := by decide +kernel
theorem d_M_started_2 : decode c_M_started 2 = .ok (.aload_n 0, 1) := by decide +kernel
theorem d_M_started_3 : decode c_M_started 3 = .ok (.getfield 113, 3) := by decide +kernel
theorem d_M_started_6 : decode c_M_started 6 = .ok (.iconst 1, 1) := by decide +kernel
theorem d_M_started_7 : decode c_M_started 7 = .ok (.isub, 1) := by decide +kernel
theorem d_M_started_8 : decode c_M_started 8 = .ok (.istore 5, 2) := by decide +kernel
theorem d_M_started_10 : decode c_M_started 10 = .ok (.iload 5, 2) := by decide +kernel
theorem d_M_started_12 : decode c_M_started 12 = .ok (.ifCond .lt 37, 3) := by decide +kernel
theorem d_M_started_15 : decode c_M_started 15 = .ok (.lload_n 3, 1) := by decide +kernel
theorem d_M_started_16 : decode c_M_started 16 = .ok (.ldc2_w 87, 3) := by decide +kernel
theorem d_M_started_19 : decode c_M_started 19 = .ok (.lcmp, 1) := by decide +kernel
theorem d_M_started_20 : decode c_M_started 20 = .ok (.ifCond .gt 29, 3) := by decide +kernel
theorem d_M_started_23 : decode c_M_started 23 = .ok (.lload_n 3, 1) := by decide +kernel
theorem d_M_started_24 : decode c_M_started 24 = .ok (.aload_n 0, 1) := by decide +kernel
theorem d_M_started_25 : decode c_M_started 25 = .ok (.getfield 38, 3) := by decide +kernel
theorem d_M_started_28 : decode c_M_started 28 = .ok (.iload 5, 2) := by decide +kernel
theorem d_M_started_30 : decode c_M_started 30 = .ok (.laload, 1) := by decide +kernel
theorem d_M_started_31 : decode c_M_started 31 = .ok (.lmul, 1) := by decide +kernel
theorem d_M_started_32 : decode c_M_started 32 = .ok (.aload_n 0, 1) := by decide +kernel
theorem d_M_started_33 : decode c_M_started 33 = .ok (.getfield 35, 3) := by decide +kernel
theorem d_M_started_36 : decode c_M_started 36 = .ok (.iload 5, 2) := by decide +kernel
theorem d_M_started_38 : decode c_M_started 38 = .ok (.laload, 1) := by decide +kernel
theorem d_M_started_39 : decode c_M_started 39 = .ok (.invokestatic 124, 3) := by decide +kernel
theorem d_M_started_42 : decode c_M_started 42 = .ok (.lstore_n 3, 1) := by decide +kernel
theorem d_M_started_43 : decode c_M_started 43 = .ok (.iinc 5 (-1), 3) := by decide +kernel
theorem d_M_started_46 : decode c_M_started 46 = .ok (.goto (-36), 3) := by decide +kernel
theorem d_M_started_49 : decode c_M_started 49 = .ok (.lload_n 3, 1) := by decide +kernel
theorem d_M_started_50 : decode c_M_started 50 = .ok (.lreturn, 1) := by decide +kernel
theorem d_M_reckon_0 : decode c_M_reckon 0 = .ok (.iconst 0, 1) := by decide +kernel
theorem d_M_reckon_1 : decode c_M_reckon 1 = .ok (.istore 6, 2) := by decide +kernel
theorem d_M_reckon_3 : decode c_M_reckon 3 = .ok (.iload 6, 2) := by decide +kernel
theorem d_M_reckon_5 : decode c_M_reckon 5 = .ok (.bipush 33, 2) := by decide +kernel
theorem d_M_reckon_7 : decode c_M_reckon 7 = .ok (.if_icmp .ge 41, 3) := by decide +kernel
theorem d_M_reckon_10 : decode c_M_reckon 10 = .ok (.aload_n 0, 1) := by decide +kernel
theorem d_M_reckon_11 : decode c_M_reckon 11 = .ok (.getfield 53, 3) := by decide +kernel
theorem d_M_reckon_14 : decode c_M_reckon 14 = .ok (.iload 6, 2) := by decide +kernel
theorem d_M_reckon_16 : decode c_M_reckon 16 = .ok (.lconst 0, 1) := by decide +kernel
theorem d_M_reckon_17 : decode c_M_reckon 17 = .ok (.lastore, 1) := by decide +kernel
theorem d_M_reckon_18 : decode c_M_reckon 18 = .ok (.aload_n 0, 1) := by decide +kernel
theorem d_M_reckon_19 : decode c_M_reckon 19 = .ok (.getfield 56, 3) := by decide +kernel
theorem d_M_reckon_22 : decode c_M_reckon 22 = .ok (.iload 6, 2) := by decide +kernel
theorem d_M_reckon_24 : decode c_M_reckon 24 = .ok (.lconst 0, 1) := by decide +kernel
theorem d_M_reckon_25 : decode c_M_reckon 25 = .ok (.lastore, 1) := by decide +kernel
theorem d_M_reckon_26 : decode c_M_reckon 26 = .ok (.aload_n 0, 1) := by decide +kernel
theorem d_M_reckon_27 : decode c_M_reckon 27 = .ok (.getfield 59, 3) := by decide +kernel
theorem d_M_reckon_30 : decode c_M_reckon 30 = .ok (.iload 6, 2) := by decide +kernel
theorem d_M_reckon_32 : decode c_M_reckon 32 = .ok (.iconst (-1), 1) := by decide +kernel
theorem d_M_reckon_33 : decode c_M_reckon 33 = .ok (.iastore, 1) := by decide +kernel
theorem d_M_reckon_34 : decode c_M_reckon 34 = .ok (.aload_n 0, 1) := by decide +kernel
theorem d_M_reckon_35 : decode c_M_reckon 35 = .ok (.getfield 62, 3) := by decide +kernel
theorem d_M_reckon_38 : decode c_M_reckon 38 = .ok (.iload 6, 2) := by decide +kernel
theorem d_M_reckon_40 : decode c_M_reckon 40 = .ok (.iconst (-1), 1) := by decide +kernel
theorem d_M_reckon_41 : decode c_M_reckon 41 = .ok (.iastore, 1) := by decide +kernel
theorem d_M_reckon_42 : decode c_M_reckon 42 = .ok (.iinc 6 1, 3) := by decide +kernel
theorem d_M_reckon_45 : decode c_M_reckon 45 = .ok (.goto (-42), 3) := by decide +kernel
theorem d_M_reckon_48 : decode c_M_reckon 48 = .ok (.aload_n 0, 1) := by decide +kernel
theorem d_M_reckon_49 : decode c_M_reckon 49 = .ok (.lload_n 1, 1) := by decide +kernel
theorem d_M_reckon_50 : decode c_M_reckon 50 = .ok (.invokevirtual 128, 3) := by decide +kernel
theorem d_M_reckon_53 : decode c_M_reckon 53 = .ok (.lstore 6, 2) := by decide +kernel
theorem d_M_reckon_55 : decode c_M_reckon 55 = .ok (.aload_n 0, 1) := by decide +kernel
theorem d_M_reckon_56 : decode c_M_reckon 56 = .ok (.lload 6, 2) := by decide +kernel
theorem d_M_reckon_58 : decode c_M_reckon 58 = .ok (.ldc2_w 87, 3) := by decide +kernel
theorem d_M_reckon_61 : decode c_M_reckon 61 = .ok (.lcmp, 1) := by decide +kernel
theorem d_M_reckon_62 : decode c_M_reckon 62 = .ok (.ifCond .gt 7, 3) := by decide +kernel
theorem d_M_reckon_65 : decode c_M_reckon 65 = .ok (.iconst 1, 1) := by decide +kernel
theorem d_M_reckon_66 : decode c_M_reckon 66 = .ok (.goto 4, 3) := by decide +kernel
theorem d_M_reckon_69 : decode c_M_reckon 69 = .ok (.iconst 0, 1) := by decide +kernel
theorem d_M_reckon_70 : decode c_M_reckon 70 = .ok (.putfield 132, 3) := by decide +kernel
theorem d_M_reckon_73 : decode c_M_reckon 73 = .ok (.aload_n 0, 1) := by decide +kernel
theorem d_M_reckon_74 : decode c_M_reckon 74 = .ok (.getfield 53, 3) := by decide +kernel
theorem d_M_reckon_77 : decode c_M_reckon 77 = .ok (.iconst 0, 1) := by decide +kernel
theorem d_M_reckon_78 : decode c_M_reckon 78 = .ok (.aload_n 0, 1) := by decide +kernel
theorem d_M_reckon_79 : decode c_M_reckon 79 = .ok (.getfield 116, 3) := by decide +kernel
theorem d_M_reckon_82 : decode c_M_reckon 82 = .ok (.lastore, 1) := by decide +kernel
theorem d_M_reckon_83 : decode c_M_reckon 83 = .ok (.aload_n 0, 1) := by decide +kernel
theorem d_M_reckon_84 : decode c_M_reckon 84 = .ok (.getfield 132, 3) := by decide +kernel
theorem d_M_reckon_87 : decode c_M_reckon 87 = .ok (.ifCond .eq 126, 3) := by decide +kernel
theorem d_M_reckon_90 : decode c_M_reckon 90 = .ok (.lload 6, 2) := by decide +kernel
theorem d_M_reckon_92 : decode c_M_reckon 92 = .ok (.lconst 0, 1) := by decide +kernel
theorem d_M_reckon_93 : decode c_M_reckon 93 = .ok (.lcmp, 1) := by decide +kernel
theorem d_M_reckon_94 : decode c_M_reckon 94 = .ok (.ifCond .le 119, 3) := by decide +kernel
theorem d_M_reckon_97 : decode c_M_reckon 97 = .ok (.aload_n 0, 1) := by decide +kernel
theorem d_M_reckon_98 : decode c_M_reckon 98 = .ok (.iconst 1, 1) := by decide +kernel
theorem d_M_reckon_99 : decode c_M_reckon 99 = .ok (.bipush 30, 2) := by decide +kernel
theorem d_M_reckon_101 : decode c_M_reckon 101 = .ok (.iload_n 3, 1) := by decide +kernel
theorem d_M_reckon_102 : decode c_M_reckon 102 = .ok (.lload 6, 2) := by decide +kernel
theorem d_M_reckon_104 : decode c_M_reckon 104 = .ok (.lload 4, 2) := by decide +kernel
theorem d_M_reckon_106 : decode c_M_reckon 106 = .ok (.invokevirtual 136, 3) := by decide +kernel
theorem d_M_reckon_109 : decode c_M_reckon 109 = .ok (.aload_n 0, 1) := by decide +kernel
theorem d_M_reckon_110 : decode c_M_reckon 110 = .ok (.aload_n 0, 1) := by decide +kernel
theorem d_M_reckon_111 : decode c_M_reckon 111 = .ok (.getfield 56, 3) := by decide +kernel
theorem d_M_reckon_114 : decode c_M_reckon 114 = .ok (.iconst 1, 1) := by decide +kernel
theorem d_M_reckon_115 : decode c_M_reckon 115 = .ok (.laload, 1) := by decide +kernel
theorem d_M_reckon_116 : decode c_M_reckon 116 = .ok (.lconst 0, 1) := by decide +kernel
theorem d_M_reckon_117 : decode c_M_reckon 117 = .ok (.lcmp, 1) := by decide +kernel
theorem d_M_reckon_118 : decode c_M_reckon 118 = .ok (.ifCond .le 7, 3) := by decide +kernel
theorem d_M_reckon_121 : decode c_M_reckon 121 = .ok (.iconst 1, 1) := by decide +kernel
theorem d_M_reckon_122 : decode c_M_reckon 122 = .ok (.goto 4, 3) := by decide +kernel
theorem d_M_reckon_125 : decode c_M_reckon 125 = .ok (.iconst 0, 1) := by decide +kernel
theorem d_M_reckon_126 : decode c_M_reckon 126 = .ok (.putfield 132, 3) := by decide +kernel
theorem d_M_reckon_129 : decode c_M_reckon 129 = .ok (.iconst 0, 1) := by decide +kernel
theorem d_M_reckon_130 : decode c_M_reckon 130 = .ok (.istore 8, 2) := by decide +kernel
theorem d_M_reckon_132 : decode c_M_reckon 132 = .ok (.iload 8, 2) := by decide +kernel
theorem d_M_reckon_134 : decode c_M_reckon 134 = .ok (.bipush 8, 2) := by decide +kernel
theorem d_M_reckon_136 : decode c_M_reckon 136 = .ok (.if_icmp .ge 42, 3) := by decide +kernel
theorem d_M_reckon_139 : decode c_M_reckon 139 = .ok (.aload_n 0, 1) := by decide +kernel
theorem d_M_reckon_140 : decode c_M_reckon 140 = .ok (.getfield 53, 3) := by decide +kernel
theorem d_M_reckon_143 : decode c_M_reckon 143 = .ok (.iconst 2, 1) := by decide +kernel
theorem d_M_reckon_144 : decode c_M_reckon 144 = .ok (.dup2, 1) := by decide +kernel
theorem d_M_reckon_145 : decode c_M_reckon 145 = .ok (.laload, 1) := by decide +kernel
theorem d_M_reckon_146 : decode c_M_reckon 146 = .ok (.lload 6, 2) := by decide +kernel
theorem d_M_reckon_148 : decode c_M_reckon 148 = .ok (.aload_n 0, 1) := by decide +kernel
theorem d_M_reckon_149 : decode c_M_reckon 149 = .ok (.getfield 32, 3) := by decide +kernel
theorem d_M_reckon_152 : decode c_M_reckon 152 = .ok (.iload 8, 2) := by decide +kernel
theorem d_M_reckon_154 : decode c_M_reckon 154 = .ok (.laload, 1) := by decide +kernel
theorem d_M_reckon_155 : decode c_M_reckon 155 = .ok (.lmul, 1) := by decide +kernel
theorem d_M_reckon_156 : decode c_M_reckon 156 = .ok (.aload_n 0, 1) := by decide +kernel
theorem d_M_reckon_157 : decode c_M_reckon 157 = .ok (.getfield 29, 3) := by decide +kernel
theorem d_M_reckon_160 : decode c_M_reckon 160 = .ok (.iload 8, 2) := by decide +kernel
theorem d_M_reckon_162 : decode c_M_reckon 162 = .ok (.laload, 1) := by decide +kernel
theorem d_M_reckon_163 : decode c_M_reckon 163 = .ok (.lmul, 1) := by decide +kernel
theorem d_M_reckon_164 : decode c_M_reckon 164 = .ok (.ldc2_w 106, 3) := by decide +kernel
theorem d_M_reckon_167 : decode c_M_reckon 167 = .ok (.invokestatic 124, 3) := by decide +kernel
theorem d_M_reckon_170 : decode c_M_reckon 170 = .ok (.ladd, 1) := by decide +kernel
theorem d_M_reckon_171 : decode c_M_reckon 171 = .ok (.lastore, 1) := by decide +kernel
theorem d_M_reckon_172 : decode c_M_reckon 172 = .ok (.iinc 8 1, 3) := by decide +kernel
theorem d_M_reckon_175 : decode c_M_reckon 175 = .ok (.goto (-43), 3) := by decide +kernel
theorem d_M_reckon_178 : decode c_M_reckon 178 = .ok (.iconst 0, 1) := by decide +kernel
theorem d_M_reckon_179 : decode c_M_reckon 179 = .ok (.istore 8, 2) := by decide +kernel
theorem d_M_reckon_181 : decode c_M_reckon 181 = .ok (.iload 8, 2) := by decide +kernel
theorem d_M_reckon_183 : decode c_M_reckon 183 = .ok (.aload_n 0, 1) := by decide +kernel
theorem d_M_reckon_184 : decode c_M_reckon 184 = .ok (.getfield 84, 3) := by decide +kernel
theorem d_M_reckon_187 : decode c_M_reckon 187 = .ok (.if_icmp .ge 26, 3) := by decide +kernel
theorem d_M_reckon_190 : decode c_M_reckon 190 = .ok (.aload_n 0, 1) := by decide +kernel
theorem d_M_reckon_191 : decode c_M_reckon 191 = .ok (.getfield 132, 3) := by decide +kernel
theorem d_M_reckon_194 : decode c_M_reckon 194 = .ok (.ifCond .eq 19, 3) := by decide +kernel
theorem d_M_reckon_197 : decode c_M_reckon 197 = .ok (.aload_n 0, 1) := by decide +kernel
theorem d_M_reckon_198 : decode c_M_reckon 198 = .ok (.iload 8, 2) := by decide +kernel
theorem d_M_reckon_200 : decode c_M_reckon 200 = .ok (.lload 6, 2) := by decide +kernel
theorem d_M_reckon_202 : decode c_M_reckon 202 = .ok (.lload 4, 2) := by decide +kernel
theorem d_M_reckon_204 : decode c_M_reckon 204 = .ok (.invokevirtual 140, 3) := by decide +kernel
theorem d_M_reckon_207 : decode c_M_reckon 207 = .ok (.iinc 8 1, 3) := by decide +kernel
theorem d_M_reckon_210 : decode c_M_reckon 210 = .ok (.goto (-29), 3) := by decide +kernel
theorem d_M_reckon_213 : decode c_M_reckon 213 = .ok (.aload_n 0, 1) := by decide +kernel
theorem d_M_reckon_214 : decode c_M_reckon 214 = .ok (.getfield 62, 3) := by decide +kernel
theorem d_M_reckon_217 : decode c_M_reckon 217 = .ok (.iconst 1, 1) := by decide +kernel
theorem d_M_reckon_218 : decode c_M_reckon 218 = .ok (.iconst (-1), 1) := by decide +kernel
theorem d_M_reckon_219 : decode c_M_reckon 219 = .ok (.iastore, 1) := by decide +kernel
theorem d_M_reckon_220 : decode c_M_reckon 220 = .ok (.aload_n 0, 1) := by decide +kernel
theorem d_M_reckon_221 : decode c_M_reckon 221 = .ok (.lconst 0, 1) := by decide +kernel
theorem d_M_reckon_222 : decode c_M_reckon 222 = .ok (.putfield 144, 3) := by decide +kernel
theorem d_M_reckon_225 : decode c_M_reckon 225 = .ok (.iconst 0, 1) := by decide +kernel
theorem d_M_reckon_226 : decode c_M_reckon 226 = .ok (.istore 8, 2) := by decide +kernel
theorem d_M_reckon_228 : decode c_M_reckon 228 = .ok (.iload 8, 2) := by decide +kernel
theorem d_M_reckon_230 : decode c_M_reckon 230 = .ok (.bipush 33, 2) := by decide +kernel
theorem d_M_reckon_232 : decode c_M_reckon 232 = .ok (.if_icmp .ge 25, 3) := by decide +kernel
theorem d_M_reckon_235 : decode c_M_reckon 235 = .ok (.aload_n 0, 1) := by decide +kernel
theorem d_M_reckon_236 : decode c_M_reckon 236 = .ok (.dup, 1) := by decide +kernel
theorem d_M_reckon_237 : decode c_M_reckon 237 = .ok (.getfield 144, 3) := by decide +kernel
theorem d_M_reckon_240 : decode c_M_reckon 240 = .ok (.aload_n 0, 1) := by decide +kernel
theorem d_M_reckon_241 : decode c_M_reckon 241 = .ok (.getfield 53, 3) := by decide +kernel
theorem d_M_reckon_244 : decode c_M_reckon 244 = .ok (.iload 8, 2) := by decide +kernel
theorem d_M_reckon_246 : decode c_M_reckon 246 = .ok (.laload, 1) := by decide +kernel
theorem d_M_reckon_247 : decode c_M_reckon 247 = .ok (.ladd, 1) := by decide +kernel
theorem d_M_reckon_248 : decode c_M_reckon 248 = .ok (.putfield 144, 3) := by decide +kernel
theorem d_M_reckon_251 : decode c_M_reckon 251 = .ok (.iinc 8 1, 3) := by decide +kernel
theorem d_M_reckon_254 : decode c_M_reckon 254 = .ok (.goto (-26), 3) := by decide +kernel
theorem d_M_reckon_257 : decode c_M_reckon 257 = .ok (.return_, 1) := by decide +kernel
theorem d_M_buyPart_0 : decode c_M_buyPart 0 = .ok (.lload_n 2, 1) := by decide +kernel
theorem d_M_buyPart_1 : decode c_M_buyPart 1 = .ok (.aload_n 0, 1) := by decide +kernel
theorem d_M_buyPart_2 : decode c_M_buyPart 2 = .ok (.getfield 20, 3) := by decide +kernel
theorem d_M_buyPart_5 : decode c_M_buyPart 5 = .ok (.iload_n 1, 1) := by decide +kernel
theorem d_M_buyPart_6 : decode c_M_buyPart 6 = .ok (.laload, 1) := by decide +kernel
theorem d_M_buyPart_7 : decode c_M_buyPart 7 = .ok (.lmul, 1) := by decide +kernel
theorem d_M_buyPart_8 : decode c_M_buyPart 8 = .ok (.aload_n 0, 1) := by decide +kernel
theorem d_M_buyPart_9 : decode c_M_buyPart 9 = .ok (.getfield 23, 3) := by decide +kernel
theorem d_M_buyPart_12 : decode c_M_buyPart 12 = .ok (.iload_n 1, 1) := by decide +kernel
theorem d_M_buyPart_13 : decode c_M_buyPart 13 = .ok (.laload, 1) := by decide +kernel
theorem d_M_buyPart_14 : decode c_M_buyPart 14 = .ok (.lsub, 1) := by decide +kernel
theorem d_M_buyPart_15 : decode c_M_buyPart 15 = .ok (.lstore 6, 2) := by decide +kernel
theorem d_M_buyPart_17 : decode c_M_buyPart 17 = .ok (.lload 6, 2) := by decide +kernel
theorem d_M_buyPart_19 : decode c_M_buyPart 19 = .ok (.lconst 0, 1) := by decide +kernel
theorem d_M_buyPart_20 : decode c_M_buyPart 20 = .ok (.lcmp, 1) := by decide +kernel
theorem d_M_buyPart_21 : decode c_M_buyPart 21 = .ok (.ifCond .gt 4, 3) := by decide +kernel
theorem d_M_buyPart_24 : decode c_M_buyPart 24 = .ok (.return_, 1) := by decide +kernel
theorem d_M_buyPart_25 : decode c_M_buyPart 25 = .ok (.lload 6, 2) := by decide +kernel
theorem d_M_buyPart_27 : decode c_M_buyPart 27 = .ok (.ldc2_w 87, 3) := by decide +kernel
theorem d_M_buyPart_30 : decode c_M_buyPart 30 = .ok (.lcmp, 1) := by decide +kernel
theorem d_M_buyPart_31 : decode c_M_buyPart 31 = .ok (.ifCond .le 9, 3) := by decide +kernel
theorem d_M_buyPart_34 : decode c_M_buyPart 34 = .ok (.aload_n 0, 1) := by decide +kernel
theorem d_M_buyPart_35 : decode c_M_buyPart 35 = .ok (.iconst 0, 1) := by decide +kernel
theorem d_M_buyPart_36 : decode c_M_buyPart 36 = .ok (.putfield 132, 3) := by decide +kernel
theorem d_M_buyPart_39 : decode c_M_buyPart 39 = .ok (.return_, 1) := by decide +kernel
theorem d_M_buyPart_40 : decode c_M_buyPart 40 = .ok (.iconst 0, 1) := by decide +kernel
theorem d_M_buyPart_41 : decode c_M_buyPart 41 = .ok (.istore 8, 2) := by decide +kernel
theorem d_M_buyPart_43 : decode c_M_buyPart 43 = .ok (.iload 8, 2) := by decide +kernel
theorem d_M_buyPart_45 : decode c_M_buyPart 45 = .ok (.aload_n 0, 1) := by decide +kernel
theorem d_M_buyPart_46 : decode c_M_buyPart 46 = .ok (.getfield 84, 3) := by decide +kernel
theorem d_M_buyPart_49 : decode c_M_buyPart 49 = .ok (.if_icmp .ge 63, 3) := by decide +kernel
theorem d_M_buyPart_52 : decode c_M_buyPart 52 = .ok (.iload 8, 2) := by decide +kernel
theorem d_M_buyPart_54 : decode c_M_buyPart 54 = .ok (.iload_n 1, 1) := by decide +kernel
theorem d_M_buyPart_55 : decode c_M_buyPart 55 = .ok (.if_icmp .eq 20, 3) := by decide +kernel
theorem d_M_buyPart_58 : decode c_M_buyPart 58 = .ok (.aload_n 0, 1) := by decide +kernel
theorem d_M_buyPart_59 : decode c_M_buyPart 59 = .ok (.getfield 26, 3) := by decide +kernel
theorem d_M_buyPart_62 : decode c_M_buyPart 62 = .ok (.iload_n 1, 1) := by decide +kernel
theorem d_M_buyPart_63 : decode c_M_buyPart 63 = .ok (.iaload, 1) := by decide +kernel
theorem d_M_buyPart_64 : decode c_M_buyPart 64 = .ok (.iload 8, 2) := by decide +kernel
theorem d_M_buyPart_66 : decode c_M_buyPart 66 = .ok (.ishr, 1) := by decide +kernel
theorem d_M_buyPart_67 : decode c_M_buyPart 67 = .ok (.iconst 1, 1) := by decide +kernel
theorem d_M_buyPart_68 : decode c_M_buyPart 68 = .ok (.iand, 1) := by decide +kernel
theorem d_M_buyPart_69 : decode c_M_buyPart 69 = .ok (.ifCond .ne 6, 3) := by decide +kernel
theorem d_M_buyPart_72 : decode c_M_buyPart 72 = .ok (.goto 34, 3) := by decide +kernel
theorem d_M_buyPart_75 : decode c_M_buyPart 75 = .ok (.iconst 0, 1) := by decide +kernel
theorem d_M_buyPart_76 : decode c_M_buyPart 76 = .ok (.istore 9, 2) := by decide +kernel
theorem d_M_buyPart_78 : decode c_M_buyPart 78 = .ok (.iload 9, 2) := by decide +kernel
theorem d_M_buyPart_80 : decode c_M_buyPart 80 = .ok (.bipush 8, 2) := by decide +kernel
theorem d_M_buyPart_82 : decode c_M_buyPart 82 = .ok (.if_icmp .ge 24, 3) := by decide +kernel
theorem d_M_buyPart_85 : decode c_M_buyPart 85 = .ok (.aload_n 0, 1) := by decide +kernel
theorem d_M_buyPart_86 : decode c_M_buyPart 86 = .ok (.iconst 3, 1) := by decide +kernel
theorem d_M_buyPart_87 : decode c_M_buyPart 87 = .ok (.iload_n 1, 1) := by decide +kernel
theorem d_M_buyPart_88 : decode c_M_buyPart 88 = .ok (.iadd, 1) := by decide +kernel
theorem d_M_buyPart_89 : decode c_M_buyPart 89 = .ok (.iload 8, 2) := by decide +kernel
theorem d_M_buyPart_91 : decode c_M_buyPart 91 = .ok (.iload 9, 2) := by decide +kernel
theorem d_M_buyPart_93 : decode c_M_buyPart 93 = .ok (.lload 6, 2) := by decide +kernel
theorem d_M_buyPart_95 : decode c_M_buyPart 95 = .ok (.lload 4, 2) := by decide +kernel
theorem d_M_buyPart_97 : decode c_M_buyPart 97 = .ok (.invokevirtual 136, 3) := by decide +kernel
theorem d_M_buyPart_100 : decode c_M_buyPart 100 = .ok (.iinc 9 1, 3) := by decide +kernel
theorem d_M_buyPart_103 : decode c_M_buyPart 103 = .ok (.goto (-25), 3) := by decide +kernel
theorem d_M_buyPart_106 : decode c_M_buyPart 106 = .ok (.iinc 8 1, 3) := by decide +kernel
theorem d_M_buyPart_109 : decode c_M_buyPart 109 = .ok (.goto (-66), 3) := by decide +kernel
theorem d_M_buyPart_112 : decode c_M_buyPart 112 = .ok (.aload_n 0, 1) := by decide +kernel
theorem d_M_buyPart_113 : decode c_M_buyPart 113 = .ok (.aload_n 0, 1) := by decide +kernel
theorem d_M_buyPart_114 : decode c_M_buyPart 114 = .ok (.getfield 56, 3) := by decide +kernel
theorem d_M_buyPart_117 : decode c_M_buyPart 117 = .ok (.iconst 3, 1) := by decide +kernel
theorem d_M_buyPart_118 : decode c_M_buyPart 118 = .ok (.iload_n 1, 1) := by decide +kernel
theorem d_M_buyPart_119 : decode c_M_buyPart 119 = .ok (.iadd, 1) := by decide +kernel
theorem d_M_buyPart_120 : decode c_M_buyPart 120 = .ok (.laload, 1) := by decide +kernel
theorem d_M_buyPart_121 : decode c_M_buyPart 121 = .ok (.lconst 0, 1) := by decide +kernel
theorem d_M_buyPart_122 : decode c_M_buyPart 122 = .ok (.lcmp, 1) := by decide +kernel
theorem d_M_buyPart_123 : decode c_M_buyPart 123 = .ok (.ifCond .le 7, 3) := by decide +kernel
theorem d_M_buyPart_126 : decode c_M_buyPart 126 = .ok (.iconst 1, 1) := by decide +kernel
theorem d_M_buyPart_127 : decode c_M_buyPart 127 = .ok (.goto 4, 3) := by decide +kernel
theorem d_M_buyPart_130 : decode c_M_buyPart 130 = .ok (.iconst 0, 1) := by decide +kernel
theorem d_M_buyPart_131 : decode c_M_buyPart 131 = .ok (.putfield 132, 3) := by decide +kernel
theorem d_M_buyPart_134 : decode c_M_buyPart 134 = .ok (.return_, 1) := by decide +kernel
theorem d_M_isQuantity_0 : decode c_M_isQuantity 0 = .ok (.lload_n 0, 1) := by decide +kernel
theorem d_M_isQuantity_1 : decode c_M_isQuantity 1 = .ok (.lconst 0, 1) := by decide +kernel
theorem d_M_isQuantity_2 : decode c_M_isQuantity 2 = .ok (.ldc2_w 111, 3) := by decide +kernel
theorem d_M_isQuantity_5 : decode c_M_isQuantity 5 = .ok (.invokestatic 89, 3) := by decide +kernel
theorem d_M_isQuantity_8 : decode c_M_isQuantity 8 = .ok (.ireturn, 1) := by decide +kernel
theorem d_M_refusal_0 : decode c_M_refusal 0 = .ok (.iload_n 3, 1) := by decide +kernel
theorem d_M_refusal_1 : decode c_M_refusal 1 = .ok (.invokestatic 99, 3) := by decide +kernel
theorem d_M_refusal_4 : decode c_M_refusal 4 = .ok (.ifCond .ne 7, 3) := by decide +kernel
theorem d_M_refusal_7 : decode c_M_refusal 7 = .ok (.iconst 1, 1) := by decide +kernel
theorem d_M_refusal_8 : decode c_M_refusal 8 = .ok (.goto 15, 3) := by decide +kernel
theorem d_M_refusal_11 : decode c_M_refusal 11 = .ok (.lload_n 1, 1) := by decide +kernel
theorem d_M_refusal_12 : decode c_M_refusal 12 = .ok (.invokestatic 147, 3) := by decide +kernel
theorem d_M_refusal_15 : decode c_M_refusal 15 = .ok (.ifCond .eq 7, 3) := by decide +kernel
theorem d_M_refusal_18 : decode c_M_refusal 18 = .ok (.iconst 0, 1) := by decide +kernel
theorem d_M_refusal_19 : decode c_M_refusal 19 = .ok (.goto 4, 3) := by decide +kernel
theorem d_M_refusal_22 : decode c_M_refusal 22 = .ok (.iconst 2, 1) := by decide +kernel
theorem d_M_refusal_23 : decode c_M_refusal 23 = .ok (.ireturn, 1) := by decide +kernel
theorem d_M_total_0 : decode c_M_total 0 = .ok (.aload_n 0, 1) := by decide +kernel
theorem d_M_total_1 : decode c_M_total 1 = .ok (.aload_n 0, 1) := by decide +kernel
theorem d_M_total_2 : decode c_M_total 2 = .ok (.lload_n 1, 1) := by decide +kernel
theorem d_M_total_3 : decode c_M_total 3 = .ok (.iload_n 3, 1) := by decide +kernel
theorem d_M_total_4 : decode c_M_total 4 = .ok (.invokevirtual 151, 3) := by decide +kernel
theorem d_M_total_7 : decode c_M_total 7 = .ok (.putfield 80, 3) := by decide +kernel
theorem d_M_total_10 : decode c_M_total 10 = .ok (.aload_n 0, 1) := by decide +kernel
theorem d_M_total_11 : decode c_M_total 11 = .ok (.getfield 80, 3) := by decide +kernel
theorem d_M_total_14 : decode c_M_total 14 = .ok (.ifCond .eq 5, 3) := by decide +kernel
theorem d_M_total_17 : decode c_M_total 17 = .ok (.lconst 0, 1) := by decide +kernel
theorem d_M_total_18 : decode c_M_total 18 = .ok (.lreturn, 1) := by decide +kernel
theorem d_M_total_19 : decode c_M_total 19 = .ok (.aload_n 0, 1) := by decide +kernel
theorem d_M_total_20 : decode c_M_total 20 = .ok (.lload_n 1, 1) := by decide +kernel
theorem d_M_total_21 : decode c_M_total 21 = .ok (.iload_n 3, 1) := by decide +kernel
theorem d_M_total_22 : decode c_M_total 22 = .ok (.lload 4, 2) := by decide +kernel
theorem d_M_total_24 : decode c_M_total 24 = .ok (.invokevirtual 155, 3) := by decide +kernel
theorem d_M_total_27 : decode c_M_total 27 = .ok (.aload_n 0, 1) := by decide +kernel
theorem d_M_total_28 : decode c_M_total 28 = .ok (.getfield 132, 3) := by decide +kernel
theorem d_M_total_31 : decode c_M_total 31 = .ok (.ifCond .ne 7, 3) := by decide +kernel
theorem d_M_total_34 : decode c_M_total 34 = .ok (.ldc2_w 159, 3) := by decide +kernel
theorem d_M_total_37 : decode c_M_total 37 = .ok (.lreturn, 1) := by decide +kernel
theorem d_M_total_38 : decode c_M_total 38 = .ok (.iconst 0, 1) := by decide +kernel
theorem d_M_total_39 : decode c_M_total 39 = .ok (.istore 6, 2) := by decide +kernel
theorem d_M_total_41 : decode c_M_total 41 = .ok (.iload 6, 2) := by decide +kernel
theorem d_M_total_43 : decode c_M_total 43 = .ok (.bipush 33, 2) := by decide +kernel
theorem d_M_total_45 : decode c_M_total 45 = .ok (.if_icmp .ge 79, 3) := by decide +kernel
theorem d_M_total_48 : decode c_M_total 48 = .ok (.aload_n 0, 1) := by decide +kernel
theorem d_M_total_49 : decode c_M_total 49 = .ok (.getfield 77, 3) := by decide +kernel
theorem d_M_total_52 : decode c_M_total 52 = .ok (.iload 6, 2) := by decide +kernel
theorem d_M_total_54 : decode c_M_total 54 = .ok (.aload_n 0, 1) := by decide +kernel
theorem d_M_total_55 : decode c_M_total 55 = .ok (.getfield 65, 3) := by decide +kernel
theorem d_M_total_58 : decode c_M_total 58 = .ok (.iload 6, 2) := by decide +kernel
theorem d_M_total_60 : decode c_M_total 60 = .ok (.laload, 1) := by decide +kernel
theorem d_M_total_61 : decode c_M_total 61 = .ok (.lastore, 1) := by decide +kernel
theorem d_M_total_62 : decode c_M_total 62 = .ok (.aload_n 0, 1) := by decide +kernel
theorem d_M_total_63 : decode c_M_total 63 = .ok (.getfield 65, 3) := by decide +kernel
theorem d_M_total_66 : decode c_M_total 66 = .ok (.iload 6, 2) := by decide +kernel
theorem d_M_total_68 : decode c_M_total 68 = .ok (.aload_n 0, 1) := by decide +kernel
theorem d_M_total_69 : decode c_M_total 69 = .ok (.getfield 53, 3) := by decide +kernel
theorem d_M_total_72 : decode c_M_total 72 = .ok (.iload 6, 2) := by decide +kernel
theorem d_M_total_74 : decode c_M_total 74 = .ok (.laload, 1) := by decide +kernel
theorem d_M_total_75 : decode c_M_total 75 = .ok (.lastore, 1) := by decide +kernel
theorem d_M_total_76 : decode c_M_total 76 = .ok (.aload_n 0, 1) := by decide +kernel
theorem d_M_total_77 : decode c_M_total 77 = .ok (.getfield 68, 3) := by decide +kernel
theorem d_M_total_80 : decode c_M_total 80 = .ok (.iload 6, 2) := by decide +kernel
theorem d_M_total_82 : decode c_M_total 82 = .ok (.aload_n 0, 1) := by decide +kernel
theorem d_M_total_83 : decode c_M_total 83 = .ok (.getfield 56, 3) := by decide +kernel
theorem d_M_total_86 : decode c_M_total 86 = .ok (.iload 6, 2) := by decide +kernel
theorem d_M_total_88 : decode c_M_total 88 = .ok (.laload, 1) := by decide +kernel
theorem d_M_total_89 : decode c_M_total 89 = .ok (.lastore, 1) := by decide +kernel
theorem d_M_total_90 : decode c_M_total 90 = .ok (.aload_n 0, 1) := by decide +kernel
theorem d_M_total_91 : decode c_M_total 91 = .ok (.getfield 71, 3) := by decide +kernel
theorem d_M_total_94 : decode c_M_total 94 = .ok (.iload 6, 2) := by decide +kernel
theorem d_M_total_96 : decode c_M_total 96 = .ok (.aload_n 0, 1) := by decide +kernel
theorem d_M_total_97 : decode c_M_total 97 = .ok (.getfield 59, 3) := by decide +kernel
theorem d_M_total_100 : decode c_M_total 100 = .ok (.iload 6, 2) := by decide +kernel
theorem d_M_total_102 : decode c_M_total 102 = .ok (.iaload, 1) := by decide +kernel
theorem d_M_total_103 : decode c_M_total 103 = .ok (.iastore, 1) := by decide +kernel
theorem d_M_total_104 : decode c_M_total 104 = .ok (.aload_n 0, 1) := by decide +kernel
theorem d_M_total_105 : decode c_M_total 105 = .ok (.getfield 74, 3) := by decide +kernel
theorem d_M_total_108 : decode c_M_total 108 = .ok (.iload 6, 2) := by decide +kernel
theorem d_M_total_110 : decode c_M_total 110 = .ok (.aload_n 0, 1) := by decide +kernel
theorem d_M_total_111 : decode c_M_total 111 = .ok (.getfield 62, 3) := by decide +kernel
theorem d_M_total_114 : decode c_M_total 114 = .ok (.iload 6, 2) := by decide +kernel
theorem d_M_total_116 : decode c_M_total 116 = .ok (.iaload, 1) := by decide +kernel
theorem d_M_total_117 : decode c_M_total 117 = .ok (.iastore, 1) := by decide +kernel
theorem d_M_total_118 : decode c_M_total 118 = .ok (.iinc 6 1, 3) := by decide +kernel
theorem d_M_total_121 : decode c_M_total 121 = .ok (.goto (-80), 3) := by decide +kernel
theorem d_M_total_124 : decode c_M_total 124 = .ok (.aload_n 0, 1) := by decide +kernel
theorem d_M_total_125 : decode c_M_total 125 = .ok (.iconst 1, 1) := by decide +kernel
theorem d_M_total_126 : decode c_M_total 126 = .ok (.putfield 161, 3) := by decide +kernel
theorem d_M_total_129 : decode c_M_total 129 = .ok (.aload_n 0, 1) := by decide +kernel
theorem d_M_total_130 : decode c_M_total 130 = .ok (.iconst 3, 1) := by decide +kernel
theorem d_M_total_131 : decode c_M_total 131 = .ok (.aload_n 0, 1) := by decide +kernel
theorem d_M_total_132 : decode c_M_total 132 = .ok (.getfield 84, 3) := by decide +kernel
theorem d_M_total_135 : decode c_M_total 135 = .ok (.iadd, 1) := by decide +kernel
theorem d_M_total_136 : decode c_M_total 136 = .ok (.putfield 164, 3) := by decide +kernel
theorem d_M_total_139 : decode c_M_total 139 = .ok (.aload_n 0, 1) := by decide +kernel
theorem d_M_total_140 : decode c_M_total 140 = .ok (.getfield 144, 3) := by decide +kernel
theorem d_M_total_143 : decode c_M_total 143 = .ok (.lreturn, 1) := by decide +kernel
theorem d_M_makersNow_0 : decode c_M_makersNow 0 = .ok (.iconst 0, 1) := by decide +kernel
theorem d_M_makersNow_1 : decode c_M_makersNow 1 = .ok (.istore_n 1, 1) := by decide +kernel
theorem d_M_makersNow_2 : decode c_M_makersNow 2 = .ok (.iconst 1, 1) := by decide +kernel
theorem d_M_makersNow_3 : decode c_M_makersNow 3 = .ok (.istore_n 2, 1) := by decide +kernel
theorem d_M_makersNow_4 : decode c_M_makersNow 4 = .ok (.iload_n 2, 1) := by decide +kernel
theorem d_M_makersNow_5 : decode c_M_makersNow 5 = .ok (.bipush 33, 2) := by decide +kernel
theorem d_M_makersNow_7 : decode c_M_makersNow 7 = .ok (.if_icmp .ge 35, 3) := by decide +kernel
theorem d_M_makersNow_10 : decode c_M_makersNow 10 = .ok (.aload_n 0, 1) := by decide +kernel
theorem d_M_makersNow_11 : decode c_M_makersNow 11 = .ok (.getfield 56, 3) := by decide +kernel
theorem d_M_makersNow_14 : decode c_M_makersNow 14 = .ok (.iload_n 2, 1) := by decide +kernel
theorem d_M_makersNow_15 : decode c_M_makersNow 15 = .ok (.laload, 1) := by decide +kernel
theorem d_M_makersNow_16 : decode c_M_makersNow 16 = .ok (.lconst 0, 1) := by decide +kernel
theorem d_M_makersNow_17 : decode c_M_makersNow 17 = .ok (.lcmp, 1) := by decide +kernel
theorem d_M_makersNow_18 : decode c_M_makersNow 18 = .ok (.ifCond .le 16, 3) := by decide +kernel
theorem d_M_makersNow_21 : decode c_M_makersNow 21 = .ok (.iload_n 1, 1) := by decide +kernel
theorem d_M_makersNow_22 : decode c_M_makersNow 22 = .ok (.iconst 1, 1) := by decide +kernel
theorem d_M_makersNow_23 : decode c_M_makersNow 23 = .ok (.aload_n 0, 1) := by decide +kernel
theorem d_M_makersNow_24 : decode c_M_makersNow 24 = .ok (.getfield 59, 3) := by decide +kernel
theorem d_M_makersNow_27 : decode c_M_makersNow 27 = .ok (.iload_n 2, 1) := by decide +kernel
theorem d_M_makersNow_28 : decode c_M_makersNow 28 = .ok (.iaload, 1) := by decide +kernel
theorem d_M_makersNow_29 : decode c_M_makersNow 29 = .ok (.ishl, 1) := by decide +kernel
theorem d_M_makersNow_30 : decode c_M_makersNow 30 = .ok (.ior, 1) := by decide +kernel
theorem d_M_makersNow_31 : decode c_M_makersNow 31 = .ok (.goto 4, 3) := by decide +kernel
theorem d_M_makersNow_34 : decode c_M_makersNow 34 = .ok (.iload_n 1, 1) := by decide +kernel
theorem d_M_makersNow_35 : decode c_M_makersNow 35 = .ok (.istore_n 1, 1) := by decide +kernel
theorem d_M_makersNow_36 : decode c_M_makersNow 36 = .ok (.iinc 2 1, 3) := by decide +kernel
theorem d_M_makersNow_39 : decode c_M_makersNow 39 = .ok (.goto (-35), 3) := by decide +kernel
theorem d_M_makersNow_42 : decode c_M_makersNow 42 = .ok (.iconst 0, 1) := by decide +kernel
theorem d_M_makersNow_43 : decode c_M_makersNow 43 = .ok (.istore_n 2, 1) := by decide +kernel
theorem d_M_makersNow_44 : decode c_M_makersNow 44 = .ok (.iload_n 1, 1) := by decide +kernel
theorem d_M_makersNow_45 : decode c_M_makersNow 45 = .ok (.ifCond .eq 16, 3) := by decide +kernel
theorem d_M_makersNow_48 : decode c_M_makersNow 48 = .ok (.iload_n 2, 1) := by decide +kernel
theorem d_M_makersNow_49 : decode c_M_makersNow 49 = .ok (.iload_n 1, 1) := by decide +kernel
theorem d_M_makersNow_50 : decode c_M_makersNow 50 = .ok (.iconst 1, 1) := by decide +kernel
theorem d_M_makersNow_51 : decode c_M_makersNow 51 = .ok (.iand, 1) := by decide +kernel
theorem d_M_makersNow_52 : decode c_M_makersNow 52 = .ok (.iadd, 1) := by decide +kernel
theorem d_M_makersNow_53 : decode c_M_makersNow 53 = .ok (.istore_n 2, 1) := by decide +kernel
theorem d_M_makersNow_54 : decode c_M_makersNow 54 = .ok (.iload_n 1, 1) := by decide +kernel
theorem d_M_makersNow_55 : decode c_M_makersNow 55 = .ok (.iconst 1, 1) := by decide +kernel
theorem d_M_makersNow_56 : decode c_M_makersNow 56 = .ok (.ishr, 1) := by decide +kernel
theorem d_M_makersNow_57 : decode c_M_makersNow 57 = .ok (.istore_n 1, 1) := by decide +kernel
theorem d_M_makersNow_58 : decode c_M_makersNow 58 = .ok (.goto (-14), 3) := by decide +kernel
theorem d_M_makersNow_61 : decode c_M_makersNow 61 = .ok (.iload_n 2, 1) := by decide +kernel
theorem d_M_makersNow_62 : decode c_M_makersNow 62 = .ok (.ireturn, 1) := by decide +kernel
theorem d_M_best_0 : decode c_M_best 0 = .ok (.aload_n 0, 1) := by decide +kernel
theorem d_M_best_1 : decode c_M_best 1 = .ok (.lload_n 1, 1) := by decide +kernel
theorem d_M_best_2 : decode c_M_best 2 = .ok (.invokestatic 147, 3) := by decide +kernel
theorem d_M_best_5 : decode c_M_best 5 = .ok (.ifCond .eq 7, 3) := by decide +kernel
theorem d_M_best_8 : decode c_M_best 8 = .ok (.iconst 0, 1) := by decide +kernel
theorem d_M_best_9 : decode c_M_best 9 = .ok (.goto 4, 3) := by decide +kernel
theorem d_M_best_12 : decode c_M_best 12 = .ok (.iconst 1, 1) := by decide +kernel
theorem d_M_best_13 : decode c_M_best 13 = .ok (.putfield 80, 3) := by decide +kernel
theorem d_M_best_16 : decode c_M_best 16 = .ok (.iconst (-1), 1) := by decide +kernel
theorem d_M_best_17 : decode c_M_best 17 = .ok (.istore 5, 2) := by decide +kernel
theorem d_M_best_19 : decode c_M_best 19 = .ok (.lconst 0, 1) := by decide +kernel
theorem d_M_best_20 : decode c_M_best 20 = .ok (.lstore 6, 2) := by decide +kernel
theorem d_M_best_22 : decode c_M_best 22 = .ok (.iconst 0, 1) := by decide +kernel
theorem d_M_best_23 : decode c_M_best 23 = .ok (.istore 8, 2) := by decide +kernel
theorem d_M_best_25 : decode c_M_best 25 = .ok (.iconst 0, 1) := by decide +kernel
theorem d_M_best_26 : decode c_M_best 26 = .ok (.istore 9, 2) := by decide +kernel
theorem d_M_best_28 : decode c_M_best 28 = .ok (.iload 9, 2) := by decide +kernel
theorem d_M_best_30 : decode c_M_best 30 = .ok (.bipush 8, 2) := by decide +kernel
theorem d_M_best_32 : decode c_M_best 32 = .ok (.if_icmp .ge 90, 3) := by decide +kernel
theorem d_M_best_35 : decode c_M_best 35 = .ok (.aload_n 0, 1) := by decide +kernel
theorem d_M_best_36 : decode c_M_best 36 = .ok (.getfield 80, 3) := by decide +kernel
theorem d_M_best_39 : decode c_M_best 39 = .ok (.ifCond .ne 83, 3) := by decide +kernel
theorem d_M_best_42 : decode c_M_best 42 = .ok (.aload_n 0, 1) := by decide +kernel
theorem d_M_best_43 : decode c_M_best 43 = .ok (.lload_n 1, 1) := by decide +kernel
theorem d_M_best_44 : decode c_M_best 44 = .ok (.iload 9, 2) := by decide +kernel
theorem d_M_best_46 : decode c_M_best 46 = .ok (.lload_n 3, 1) := by decide +kernel
theorem d_M_best_47 : decode c_M_best 47 = .ok (.invokevirtual 155, 3) := by decide +kernel
theorem d_M_best_50 : decode c_M_best 50 = .ok (.aload_n 0, 1) := by decide +kernel
theorem d_M_best_51 : decode c_M_best 51 = .ok (.getfield 132, 3) := by decide +kernel
theorem d_M_best_54 : decode c_M_best 54 = .ok (.ifCond .ne 6, 3) := by decide +kernel
theorem d_M_best_57 : decode c_M_best 57 = .ok (.goto 59, 3) := by decide +kernel
theorem d_M_best_60 : decode c_M_best 60 = .ok (.aload_n 0, 1) := by decide +kernel
theorem d_M_best_61 : decode c_M_best 61 = .ok (.invokevirtual 167, 3) := by decide +kernel
theorem d_M_best_64 : decode c_M_best 64 = .ok (.istore 10, 2) := by decide +kernel
theorem d_M_best_66 : decode c_M_best 66 = .ok (.iload 5, 2) := by decide +kernel
theorem d_M_best_68 : decode c_M_best 68 = .ok (.iconst (-1), 1) := by decide +kernel
theorem d_M_best_69 : decode c_M_best 69 = .ok (.if_icmp .eq 33, 3) := by decide +kernel
theorem d_M_best_72 : decode c_M_best 72 = .ok (.aload_n 0, 1) := by decide +kernel
theorem d_M_best_73 : decode c_M_best 73 = .ok (.getfield 144, 3) := by decide +kernel
theorem d_M_best_76 : decode c_M_best 76 = .ok (.lload 6, 2) := by decide +kernel
theorem d_M_best_78 : decode c_M_best 78 = .ok (.lcmp, 1) := by decide +kernel
theorem d_M_best_79 : decode c_M_best 79 = .ok (.ifCond .gt 37, 3) := by decide +kernel
theorem d_M_best_82 : decode c_M_best 82 = .ok (.aload_n 0, 1) := by decide +kernel
theorem d_M_best_83 : decode c_M_best 83 = .ok (.getfield 144, 3) := by decide +kernel
theorem d_M_best_86 : decode c_M_best 86 = .ok (.lload 6, 2) := by decide +kernel
theorem d_M_best_88 : decode c_M_best 88 = .ok (.lcmp, 1) := by decide +kernel
theorem d_M_best_89 : decode c_M_best 89 = .ok (.ifCond .ne 13, 3) := by decide +kernel
theorem d_M_best_92 : decode c_M_best 92 = .ok (.iload 10, 2) := by decide +kernel
theorem d_M_best_94 : decode c_M_best 94 = .ok (.iload 8, 2) := by decide +kernel
theorem d_M_best_96 : decode c_M_best 96 = .ok (.if_icmp .lt 6, 3) := by decide +kernel
theorem d_M_best_99 : decode c_M_best 99 = .ok (.goto 17, 3) := by decide +kernel
theorem d_M_best_102 : decode c_M_best 102 = .ok (.iload 9, 2) := by decide +kernel
theorem d_M_best_104 : decode c_M_best 104 = .ok (.istore 5, 2) := by decide +kernel
theorem d_M_best_106 : decode c_M_best 106 = .ok (.aload_n 0, 1) := by decide +kernel
theorem d_M_best_107 : decode c_M_best 107 = .ok (.getfield 144, 3) := by decide +kernel
theorem d_M_best_110 : decode c_M_best 110 = .ok (.lstore 6, 2) := by decide +kernel
theorem d_M_best_112 : decode c_M_best 112 = .ok (.iload 10, 2) := by decide +kernel
theorem d_M_best_114 : decode c_M_best 114 = .ok (.istore 8, 2) := by decide +kernel
theorem d_M_best_116 : decode c_M_best 116 = .ok (.iinc 9 1, 3) := by decide +kernel
theorem d_M_best_119 : decode c_M_best 119 = .ok (.goto (-91), 3) := by decide +kernel
theorem d_M_best_122 : decode c_M_best 122 = .ok (.aload_n 0, 1) := by decide +kernel
theorem d_M_best_123 : decode c_M_best 123 = .ok (.getfield 80, 3) := by decide +kernel
theorem d_M_best_126 : decode c_M_best 126 = .ok (.ifCond .ne 8, 3) := by decide +kernel
theorem d_M_best_129 : decode c_M_best 129 = .ok (.iload 5, 2) := by decide +kernel
theorem d_M_best_131 : decode c_M_best 131 = .ok (.goto 4, 3) := by decide +kernel
theorem d_M_best_134 : decode c_M_best 134 = .ok (.iconst 0, 1) := by decide +kernel
theorem d_M_best_135 : decode c_M_best 135 = .ok (.ireturn, 1) := by decide +kernel
theorem d_M_each_0 : decode c_M_each 0 = .ok (.iload_n 3, 1) := by decide +kernel
theorem d_M_each_1 : decode c_M_each 1 = .ok (.invokestatic 99, 3) := by decide +kernel
theorem d_M_each_4 : decode c_M_each 4 = .ok (.ifCond .eq 18, 3) := by decide +kernel
theorem d_M_each_7 : decode c_M_each 7 = .ok (.iload 6, 2) := by decide +kernel
theorem d_M_each_9 : decode c_M_each 9 = .ok (.ifCond .eq 9, 3) := by decide +kernel
theorem d_M_each_12 : decode c_M_each 12 = .ok (.iload 6, 2) := by decide +kernel
theorem d_M_each_14 : decode c_M_each 14 = .ok (.iconst 1, 1) := by decide +kernel
theorem d_M_each_15 : decode c_M_each 15 = .ok (.if_icmp .ne 7, 3) := by decide +kernel
theorem d_M_each_18 : decode c_M_each 18 = .ok (.iconst 1, 1) := by decide +kernel
theorem d_M_each_19 : decode c_M_each 19 = .ok (.goto 4, 3) := by decide +kernel
theorem d_M_each_22 : decode c_M_each 22 = .ok (.iconst 0, 1) := by decide +kernel
theorem d_M_each_23 : decode c_M_each 23 = .ok (.istore 7, 2) := by decide +kernel
theorem d_M_each_25 : decode c_M_each 25 = .ok (.aload_n 0, 1) := by decide +kernel
theorem d_M_each_26 : decode c_M_each 26 = .ok (.iload 7, 2) := by decide +kernel
theorem d_M_each_28 : decode c_M_each 28 = .ok (.ifCond .ne 7, 3) := by decide +kernel
theorem d_M_each_31 : decode c_M_each 31 = .ok (.iconst 1, 1) := by decide +kernel
theorem d_M_each_32 : decode c_M_each 32 = .ok (.goto 21, 3) := by decide +kernel
theorem d_M_each_35 : decode c_M_each 35 = .ok (.lload_n 1, 1) := by decide +kernel
theorem d_M_each_36 : decode c_M_each 36 = .ok (.invokestatic 147, 3) := by decide +kernel
theorem d_M_each_39 : decode c_M_each 39 = .ok (.ifCond .eq 13, 3) := by decide +kernel
theorem d_M_each_42 : decode c_M_each 42 = .ok (.lload_n 1, 1) := by decide +kernel
theorem d_M_each_43 : decode c_M_each 43 = .ok (.lconst 0, 1) := by decide +kernel
theorem d_M_each_44 : decode c_M_each 44 = .ok (.lcmp, 1) := by decide +kernel
theorem d_M_each_45 : decode c_M_each 45 = .ok (.ifCond .le 7, 3) := by decide +kernel
theorem d_M_each_48 : decode c_M_each 48 = .ok (.iconst 0, 1) := by decide +kernel
theorem d_M_each_49 : decode c_M_each 49 = .ok (.goto 4, 3) := by decide +kernel
theorem d_M_each_52 : decode c_M_each 52 = .ok (.iconst 2, 1) := by decide +kernel
theorem d_M_each_53 : decode c_M_each 53 = .ok (.putfield 80, 3) := by decide +kernel
theorem d_M_each_56 : decode c_M_each 56 = .ok (.aload_n 0, 1) := by decide +kernel
theorem d_M_each_57 : decode c_M_each 57 = .ok (.getfield 80, 3) := by decide +kernel
theorem d_M_each_60 : decode c_M_each 60 = .ok (.ifCond .eq 5, 3) := by decide +kernel
theorem d_M_each_63 : decode c_M_each 63 = .ok (.lconst 0, 1) := by decide +kernel
theorem d_M_each_64 : decode c_M_each 64 = .ok (.lreturn, 1) := by decide +kernel
theorem d_M_each_65 : decode c_M_each 65 = .ok (.aload_n 0, 1) := by decide +kernel
theorem d_M_each_66 : decode c_M_each 66 = .ok (.lload_n 1, 1) := by decide +kernel
theorem d_M_each_67 : decode c_M_each 67 = .ok (.iload_n 3, 1) := by decide +kernel
theorem d_M_each_68 : decode c_M_each 68 = .ok (.lload 4, 2) := by decide +kernel
theorem d_M_each_70 : decode c_M_each 70 = .ok (.invokevirtual 155, 3) := by decide +kernel
theorem d_M_each_73 : decode c_M_each 73 = .ok (.aload_n 0, 1) := by decide +kernel
theorem d_M_each_74 : decode c_M_each 74 = .ok (.getfield 132, 3) := by decide +kernel
theorem d_M_each_77 : decode c_M_each 77 = .ok (.ifCond .ne 9, 3) := by decide +kernel
theorem d_M_each_80 : decode c_M_each 80 = .ok (.ldc2_w 159, 3) := by decide +kernel
theorem d_M_each_83 : decode c_M_each 83 = .ok (.goto 23, 3) := by decide +kernel
theorem d_M_each_86 : decode c_M_each 86 = .ok (.iload 6, 2) := by decide +kernel
theorem d_M_each_88 : decode c_M_each 88 = .ok (.ifCond .ne 12, 3) := by decide +kernel
theorem d_M_each_91 : decode c_M_each 91 = .ok (.aload_n 0, 1) := by decide +kernel
theorem d_M_each_92 : decode c_M_each 92 = .ok (.getfield 144, 3) := by decide +kernel
theorem d_M_each_95 : decode c_M_each 95 = .ok (.lload_n 1, 1) := by decide +kernel
theorem d_M_each_96 : decode c_M_each 96 = .ok (.ldiv, 1) := by decide +kernel
theorem d_M_each_97 : decode c_M_each 97 = .ok (.goto 9, 3) := by decide +kernel
theorem d_M_each_100 : decode c_M_each 100 = .ok (.aload_n 0, 1) := by decide +kernel
theorem d_M_each_101 : decode c_M_each 101 = .ok (.getfield 144, 3) := by decide +kernel
theorem d_M_each_104 : decode c_M_each 104 = .ok (.lload_n 1, 1) := by decide +kernel
theorem d_M_each_105 : decode c_M_each 105 = .ok (.lrem, 1) := by decide +kernel
theorem d_M_each_106 : decode c_M_each 106 = .ok (.lreturn, 1) := by decide +kernel
theorem d_M_suppliers_0 : decode c_M_suppliers 0 = .ok (.aload_n 0, 1) := by decide +kernel
theorem d_M_suppliers_1 : decode c_M_suppliers 1 = .ok (.aload_n 0, 1) := by decide +kernel
theorem d_M_suppliers_2 : decode c_M_suppliers 2 = .ok (.lload_n 1, 1) := by decide +kernel
theorem d_M_suppliers_3 : decode c_M_suppliers 3 = .ok (.iload_n 3, 1) := by decide +kernel
theorem d_M_suppliers_4 : decode c_M_suppliers 4 = .ok (.invokevirtual 151, 3) := by decide +kernel
theorem d_M_suppliers_7 : decode c_M_suppliers 7 = .ok (.putfield 80, 3) := by decide +kernel
theorem d_M_suppliers_10 : decode c_M_suppliers 10 = .ok (.aload_n 0, 1) := by decide +kernel
theorem d_M_suppliers_11 : decode c_M_suppliers 11 = .ok (.getfield 80, 3) := by decide +kernel
theorem d_M_suppliers_14 : decode c_M_suppliers 14 = .ok (.ifCond .eq 5, 3) := by decide +kernel
theorem d_M_suppliers_17 : decode c_M_suppliers 17 = .ok (.iconst 0, 1) := by decide +kernel
theorem d_M_suppliers_18 : decode c_M_suppliers 18 = .ok (.ireturn, 1) := by decide +kernel
theorem d_M_suppliers_19 : decode c_M_suppliers 19 = .ok (.aload_n 0, 1) := by decide +kernel
theorem d_M_suppliers_20 : decode c_M_suppliers 20 = .ok (.lload_n 1, 1) := by decide +kernel
theorem d_M_suppliers_21 : decode c_M_suppliers 21 = .ok (.iload_n 3, 1) := by decide +kernel
theorem d_M_suppliers_22 : decode c_M_suppliers 22 = .ok (.ldc2_w 171, 3) := by decide +kernel
theorem d_M_suppliers_25 : decode c_M_suppliers 25 = .ok (.invokevirtual 155, 3) := by decide +kernel
theorem d_M_suppliers_28 : decode c_M_suppliers 28 = .ok (.aload_n 0, 1) := by decide +kernel
theorem d_M_suppliers_29 : decode c_M_suppliers 29 = .ok (.getfield 132, 3) := by decide +kernel
theorem d_M_suppliers_32 : decode c_M_suppliers 32 = .ok (.ifCond .eq 10, 3) := by decide +kernel
theorem d_M_suppliers_35 : decode c_M_suppliers 35 = .ok (.aload_n 0, 1) := by decide +kernel
theorem d_M_suppliers_36 : decode c_M_suppliers 36 = .ok (.invokevirtual 167, 3) := by decide +kernel
theorem d_M_suppliers_39 : decode c_M_suppliers 39 = .ok (.goto 4, 3) := by decide +kernel
theorem d_M_suppliers_42 : decode c_M_suppliers 42 = .ok (.iconst (-1), 1) := by decide +kernel
theorem d_M_suppliers_43 : decode c_M_suppliers 43 = .ok (.ireturn, 1) := by decide +kernel
theorem d_M_changed_0 : decode c_M_changed 0 = .ok (.aload_n 0, 1) := by decide +kernel
theorem d_M_changed_1 : decode c_M_changed 1 = .ok (.iconst 0, 1) := by decide +kernel
theorem d_M_changed_2 : decode c_M_changed 2 = .ok (.putfield 80, 3) := by decide +kernel
theorem d_M_changed_5 : decode c_M_changed 5 = .ok (.iload_n 1, 1) := by decide +kernel
theorem d_M_changed_6 : decode c_M_changed 6 = .ok (.istore_n 2, 1) := by decide +kernel
theorem d_M_changed_7 : decode c_M_changed 7 = .ok (.iconst 0, 1) := by decide +kernel
theorem d_M_changed_8 : decode c_M_changed 8 = .ok (.istore_n 3, 1) := by decide +kernel
theorem d_M_changed_9 : decode c_M_changed 9 = .ok (.iload_n 3, 1) := by decide +kernel
theorem d_M_changed_10 : decode c_M_changed 10 = .ok (.bipush 33, 2) := by decide +kernel
theorem d_M_changed_12 : decode c_M_changed 12 = .ok (.if_icmp .ge 48, 3) := by decide +kernel
theorem d_M_changed_15 : decode c_M_changed 15 = .ok (.iload_n 1, 1) := by decide +kernel
theorem d_M_changed_16 : decode c_M_changed 16 = .ok (.ifCond .lt 44, 3) := by decide +kernel
theorem d_M_changed_19 : decode c_M_changed 19 = .ok (.aload_n 0, 1) := by decide +kernel
theorem d_M_changed_20 : decode c_M_changed 20 = .ok (.getfield 161, 3) := by decide +kernel
theorem d_M_changed_23 : decode c_M_changed 23 = .ok (.ifCond .eq 37, 3) := by decide +kernel
theorem d_M_changed_26 : decode c_M_changed 26 = .ok (.aload_n 0, 1) := by decide +kernel
theorem d_M_changed_27 : decode c_M_changed 27 = .ok (.getfield 65, 3) := by decide +kernel
theorem d_M_changed_30 : decode c_M_changed 30 = .ok (.iload_n 3, 1) := by decide +kernel
theorem d_M_changed_31 : decode c_M_changed 31 = .ok (.laload, 1) := by decide +kernel
theorem d_M_changed_32 : decode c_M_changed 32 = .ok (.aload_n 0, 1) := by decide +kernel
theorem d_M_changed_33 : decode c_M_changed 33 = .ok (.getfield 77, 3) := by decide +kernel
theorem d_M_changed_36 : decode c_M_changed 36 = .ok (.iload_n 3, 1) := by decide +kernel
theorem d_M_changed_37 : decode c_M_changed 37 = .ok (.laload, 1) := by decide +kernel
theorem d_M_changed_38 : decode c_M_changed 38 = .ok (.lcmp, 1) := by decide +kernel
theorem d_M_changed_39 : decode c_M_changed 39 = .ok (.ifCond .ne 6, 3) := by decide +kernel
theorem d_M_changed_42 : decode c_M_changed 42 = .ok (.goto 12, 3) := by decide +kernel
theorem d_M_changed_45 : decode c_M_changed 45 = .ok (.iload_n 2, 1) := by decide +kernel
theorem d_M_changed_46 : decode c_M_changed 46 = .ok (.ifCond .ne 5, 3) := by decide +kernel
theorem d_M_changed_49 : decode c_M_changed 49 = .ok (.iload_n 3, 1) := by decide +kernel
theorem d_M_changed_50 : decode c_M_changed 50 = .ok (.ireturn, 1) := by decide +kernel
theorem d_M_changed_51 : decode c_M_changed 51 = .ok (.iinc 2 (-1), 3) := by decide +kernel
theorem d_M_changed_54 : decode c_M_changed 54 = .ok (.iinc 3 1, 3) := by decide +kernel
theorem d_M_changed_57 : decode c_M_changed 57 = .ok (.goto (-48), 3) := by decide +kernel
theorem d_M_changed_60 : decode c_M_changed 60 = .ok (.iconst (-1), 1) := by decide +kernel
theorem d_M_changed_61 : decode c_M_changed 61 = .ok (.ireturn, 1) := by decide +kernel
theorem d_M_row_0 : decode c_M_row 0 = .ok (.aload_n 0, 1) := by decide +kernel
theorem d_M_row_1 : decode c_M_row 1 = .ok (.aload_n 0, 1) := by decide +kernel
theorem d_M_row_2 : decode c_M_row 2 = .ok (.getfield 161, 3) := by decide +kernel
theorem d_M_row_5 : decode c_M_row 5 = .ok (.ifCond .eq 28, 3) := by decide +kernel
theorem d_M_row_8 : decode c_M_row 8 = .ok (.iload_n 1, 1) := by decide +kernel
theorem d_M_row_9 : decode c_M_row 9 = .ok (.ifCond .lt 24, 3) := by decide +kernel
theorem d_M_row_12 : decode c_M_row 12 = .ok (.iload_n 1, 1) := by decide +kernel
theorem d_M_row_13 : decode c_M_row 13 = .ok (.aload_n 0, 1) := by decide +kernel
theorem d_M_row_14 : decode c_M_row 14 = .ok (.getfield 164, 3) := by decide +kernel
theorem d_M_row_17 : decode c_M_row 17 = .ok (.if_icmp .ge 16, 3) := by decide +kernel
theorem d_M_row_20 : decode c_M_row 20 = .ok (.iload_n 2, 1) := by decide +kernel
theorem d_M_row_21 : decode c_M_row 21 = .ok (.ifCond .lt 12, 3) := by decide +kernel
theorem d_M_row_24 : decode c_M_row 24 = .ok (.iload_n 2, 1) := by decide +kernel
theorem d_M_row_25 : decode c_M_row 25 = .ok (.iconst 3, 1) := by decide +kernel
theorem d_M_row_26 : decode c_M_row 26 = .ok (.if_icmp .ge 7, 3) := by decide +kernel
theorem d_M_row_29 : decode c_M_row 29 = .ok (.iconst 0, 1) := by decide +kernel
theorem d_M_row_30 : decode c_M_row 30 = .ok (.goto 4, 3) := by decide +kernel
theorem d_M_row_33 : decode c_M_row 33 = .ok (.iconst 1, 1) := by decide +kernel
theorem d_M_row_34 : decode c_M_row 34 = .ok (.putfield 80, 3) := by decide +kernel
theorem d_M_row_37 : decode c_M_row 37 = .ok (.aload_n 0, 1) := by decide +kernel
theorem d_M_row_38 : decode c_M_row 38 = .ok (.getfield 80, 3) := by decide +kernel
theorem d_M_row_41 : decode c_M_row 41 = .ok (.ifCond .eq 5, 3) := by decide +kernel
theorem d_M_row_44 : decode c_M_row 44 = .ok (.iconst 0, 1) := by decide +kernel
theorem d_M_row_45 : decode c_M_row 45 = .ok (.ireturn, 1) := by decide +kernel
theorem d_M_row_46 : decode c_M_row 46 = .ok (.iload_n 2, 1) := by decide +kernel
theorem d_M_row_47 : decode c_M_row 47 = .ok (.ifCond .ne 13, 3) := by decide +kernel
theorem d_M_row_50 : decode c_M_row 50 = .ok (.aload_n 0, 1) := by decide +kernel
theorem d_M_row_51 : decode c_M_row 51 = .ok (.getfield 68, 3) := by decide +kernel
theorem d_M_row_54 : decode c_M_row 54 = .ok (.iload_n 1, 1) := by decide +kernel
theorem d_M_row_55 : decode c_M_row 55 = .ok (.laload, 1) := by decide +kernel
theorem d_M_row_56 : decode c_M_row 56 = .ok (.l2i, 1) := by decide +kernel
theorem d_M_row_57 : decode c_M_row 57 = .ok (.goto 23, 3) := by decide +kernel
theorem d_M_row_60 : decode c_M_row 60 = .ok (.iload_n 2, 1) := by decide +kernel
theorem d_M_row_61 : decode c_M_row 61 = .ok (.iconst 1, 1) := by decide +kernel
theorem d_M_row_62 : decode c_M_row 62 = .ok (.if_icmp .ne 12, 3) := by decide +kernel
theorem d_M_row_65 : decode c_M_row 65 = .ok (.aload_n 0, 1) := by decide +kernel
theorem d_M_row_66 : decode c_M_row 66 = .ok (.getfield 71, 3) := by decide +kernel
theorem d_M_row_69 : decode c_M_row 69 = .ok (.iload_n 1, 1) := by decide +kernel
theorem d_M_row_70 : decode c_M_row 70 = .ok (.iaload, 1) := by decide +kernel
theorem d_M_row_71 : decode c_M_row 71 = .ok (.goto 9, 3) := by decide +kernel
theorem d_M_row_74 : decode c_M_row 74 = .ok (.aload_n 0, 1) := by decide +kernel
theorem d_M_row_75 : decode c_M_row 75 = .ok (.getfield 74, 3) := by decide +kernel
theorem d_M_row_78 : decode c_M_row 78 = .ok (.iload_n 1, 1) := by decide +kernel
theorem d_M_row_79 : decode c_M_row 79 = .ok (.iaload, 1) := by decide +kernel
theorem d_M_row_80 : decode c_M_row 80 = .ok (.ireturn, 1) := by decide +kernel
