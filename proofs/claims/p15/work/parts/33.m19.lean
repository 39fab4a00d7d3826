theorem wn_MO_text_0 : ∀ i, i < 96 → bA b_MO_text (0 + i) = wB [42, 3, 181, 0, 145, 27, 155, 0, 11, 27, 42, 180, 0, 148, 164, 0, 6, 16, 254, 172, 42, 27, 181, 0, 154, 42, 3, 181, 0, 148, 42, 3, 181, 0, 151, 42, 3, 181, 0, 199, 42, 2, 181, 0, 202, 3, 61, 28, 16, 9, 162, 0, 28, 42, 28, 28, 153, 0, 8, 28, 4, 160, 0, 7, 7, 167, 0, 4, 3, 182, 0, 238, 132, 2, 1, 167, 255, 228, 3, 61, 28, 16, 48, 162, 0, 39, 42, 180, 0, 25, 16, 48, 28, 96, 3, 79] i := wB_of (by decide +kernel)
theorem d_MO_text_0 : decode b_MO_text 0 = .ok (.aload_n 0, 1) := dc_42 (q0_win (r := 0) wn_MO_text_0 (by decide +kernel))
theorem d_MO_text_1 : decode b_MO_text 1 = .ok (.iconst 0, 1) := dc_3 (q0_win (r := 1) wn_MO_text_0 (by decide +kernel))
theorem d_MO_text_2 : decode b_MO_text 2 = .ok (.putfield 145, 3) := dc_181 (qU2_win (r := 2) wn_MO_text_0 (by decide +kernel))
theorem d_MO_text_5 : decode b_MO_text 5 = .ok (.iload_n 1, 1) := dc_27 (q0_win (r := 5) wn_MO_text_0 (by decide +kernel))
theorem d_MO_text_6 : decode b_MO_text 6 = .ok (.ifCond .lt 11, 3) := dc_155 (qS2_win (r := 6) wn_MO_text_0 (by decide +kernel))
theorem d_MO_text_9 : decode b_MO_text 9 = .ok (.iload_n 1, 1) := dc_27 (q0_win (r := 9) wn_MO_text_0 (by decide +kernel))
theorem d_MO_text_10 : decode b_MO_text 10 = .ok (.aload_n 0, 1) := dc_42 (q0_win (r := 10) wn_MO_text_0 (by decide +kernel))
theorem d_MO_text_11 : decode b_MO_text 11 = .ok (.getfield 148, 3) := dc_180 (qU2_win (r := 11) wn_MO_text_0 (by decide +kernel))
theorem d_MO_text_14 : decode b_MO_text 14 = .ok (.if_icmp .le 6, 3) := dc_164 (qS2_win (r := 14) wn_MO_text_0 (by decide +kernel))
theorem d_MO_text_17 : decode b_MO_text 17 = .ok (.bipush (-2), 2) := dc_16 (qS1_win (r := 17) wn_MO_text_0 (by decide +kernel))
theorem d_MO_text_19 : decode b_MO_text 19 = .ok (.ireturn, 1) := dc_172 (q0_win (r := 19) wn_MO_text_0 (by decide +kernel))
theorem d_MO_text_20 : decode b_MO_text 20 = .ok (.aload_n 0, 1) := dc_42 (q0_win (r := 20) wn_MO_text_0 (by decide +kernel))
theorem d_MO_text_21 : decode b_MO_text 21 = .ok (.iload_n 1, 1) := dc_27 (q0_win (r := 21) wn_MO_text_0 (by decide +kernel))
theorem d_MO_text_22 : decode b_MO_text 22 = .ok (.putfield 154, 3) := dc_181 (qU2_win (r := 22) wn_MO_text_0 (by decide +kernel))
theorem d_MO_text_25 : decode b_MO_text 25 = .ok (.aload_n 0, 1) := dc_42 (q0_win (r := 25) wn_MO_text_0 (by decide +kernel))
theorem d_MO_text_26 : decode b_MO_text 26 = .ok (.iconst 0, 1) := dc_3 (q0_win (r := 26) wn_MO_text_0 (by decide +kernel))
theorem d_MO_text_27 : decode b_MO_text 27 = .ok (.putfield 148, 3) := dc_181 (qU2_win (r := 27) wn_MO_text_0 (by decide +kernel))
theorem d_MO_text_30 : decode b_MO_text 30 = .ok (.aload_n 0, 1) := dc_42 (q0_win (r := 30) wn_MO_text_0 (by decide +kernel))
theorem d_MO_text_31 : decode b_MO_text 31 = .ok (.iconst 0, 1) := dc_3 (q0_win (r := 31) wn_MO_text_0 (by decide +kernel))
theorem d_MO_text_32 : decode b_MO_text 32 = .ok (.putfield 151, 3) := dc_181 (qU2_win (r := 32) wn_MO_text_0 (by decide +kernel))
theorem d_MO_text_35 : decode b_MO_text 35 = .ok (.aload_n 0, 1) := dc_42 (q0_win (r := 35) wn_MO_text_0 (by decide +kernel))
theorem d_MO_text_36 : decode b_MO_text 36 = .ok (.iconst 0, 1) := dc_3 (q0_win (r := 36) wn_MO_text_0 (by decide +kernel))
theorem d_MO_text_37 : decode b_MO_text 37 = .ok (.putfield 199, 3) := dc_181 (qU2_win (r := 37) wn_MO_text_0 (by decide +kernel))
theorem d_MO_text_40 : decode b_MO_text 40 = .ok (.aload_n 0, 1) := dc_42 (q0_win (r := 40) wn_MO_text_0 (by decide +kernel))
theorem d_MO_text_41 : decode b_MO_text 41 = .ok (.iconst (-1), 1) := dc_2 (q0_win (r := 41) wn_MO_text_0 (by decide +kernel))
theorem d_MO_text_42 : decode b_MO_text 42 = .ok (.putfield 202, 3) := dc_181 (qU2_win (r := 42) wn_MO_text_0 (by decide +kernel))
theorem d_MO_text_45 : decode b_MO_text 45 = .ok (.iconst 0, 1) := dc_3 (q0_win (r := 45) wn_MO_text_0 (by decide +kernel))
theorem d_MO_text_46 : decode b_MO_text 46 = .ok (.istore_n 2, 1) := dc_61 (q0_win (r := 46) wn_MO_text_0 (by decide +kernel))
theorem d_MO_text_47 : decode b_MO_text 47 = .ok (.iload_n 2, 1) := dc_28 (q0_win (r := 47) wn_MO_text_0 (by decide +kernel))
theorem d_MO_text_48 : decode b_MO_text 48 = .ok (.bipush 9, 2) := dc_16 (qS1_win (r := 48) wn_MO_text_0 (by decide +kernel))
theorem d_MO_text_50 : decode b_MO_text 50 = .ok (.if_icmp .ge 28, 3) := dc_162 (qS2_win (r := 50) wn_MO_text_0 (by decide +kernel))
theorem d_MO_text_53 : decode b_MO_text 53 = .ok (.aload_n 0, 1) := dc_42 (q0_win (r := 53) wn_MO_text_0 (by decide +kernel))
theorem d_MO_text_54 : decode b_MO_text 54 = .ok (.iload_n 2, 1) := dc_28 (q0_win (r := 54) wn_MO_text_0 (by decide +kernel))
theorem d_MO_text_55 : decode b_MO_text 55 = .ok (.iload_n 2, 1) := dc_28 (q0_win (r := 55) wn_MO_text_0 (by decide +kernel))
theorem d_MO_text_56 : decode b_MO_text 56 = .ok (.ifCond .eq 8, 3) := dc_153 (qS2_win (r := 56) wn_MO_text_0 (by decide +kernel))
theorem d_MO_text_59 : decode b_MO_text 59 = .ok (.iload_n 2, 1) := dc_28 (q0_win (r := 59) wn_MO_text_0 (by decide +kernel))
theorem d_MO_text_60 : decode b_MO_text 60 = .ok (.iconst 1, 1) := dc_4 (q0_win (r := 60) wn_MO_text_0 (by decide +kernel))
theorem d_MO_text_61 : decode b_MO_text 61 = .ok (.if_icmp .ne 7, 3) := dc_160 (qS2_win (r := 61) wn_MO_text_0 (by decide +kernel))
theorem d_MO_text_64 : decode b_MO_text 64 = .ok (.iconst 4, 1) := dc_7 (q0_win (r := 64) wn_MO_text_0 (by decide +kernel))
theorem d_MO_text_65 : decode b_MO_text 65 = .ok (.goto 4, 3) := dc_167 (qS2_win (r := 65) wn_MO_text_0 (by decide +kernel))
theorem d_MO_text_68 : decode b_MO_text 68 = .ok (.iconst 0, 1) := dc_3 (q0_win (r := 68) wn_MO_text_0 (by decide +kernel))
theorem d_MO_text_69 : decode b_MO_text 69 = .ok (.invokevirtual 238, 3) := dc_182 (qU2_win (r := 69) wn_MO_text_0 (by decide +kernel))
theorem d_MO_text_72 : decode b_MO_text 72 = .ok (.iinc 2 1, 3) := dc_132 (qI_win (r := 72) wn_MO_text_0 (by decide +kernel))
theorem d_MO_text_75 : decode b_MO_text 75 = .ok (.goto (-28), 3) := dc_167 (qS2_win (r := 75) wn_MO_text_0 (by decide +kernel))
theorem d_MO_text_78 : decode b_MO_text 78 = .ok (.iconst 0, 1) := dc_3 (q0_win (r := 78) wn_MO_text_0 (by decide +kernel))
theorem d_MO_text_79 : decode b_MO_text 79 = .ok (.istore_n 2, 1) := dc_61 (q0_win (r := 79) wn_MO_text_0 (by decide +kernel))
theorem d_MO_text_80 : decode b_MO_text 80 = .ok (.iload_n 2, 1) := dc_28 (q0_win (r := 80) wn_MO_text_0 (by decide +kernel))
theorem d_MO_text_81 : decode b_MO_text 81 = .ok (.bipush 48, 2) := dc_16 (qS1_win (r := 81) wn_MO_text_0 (by decide +kernel))
theorem d_MO_text_83 : decode b_MO_text 83 = .ok (.if_icmp .ge 39, 3) := dc_162 (qS2_win (r := 83) wn_MO_text_0 (by decide +kernel))
theorem d_MO_text_86 : decode b_MO_text 86 = .ok (.aload_n 0, 1) := dc_42 (q0_win (r := 86) wn_MO_text_0 (by decide +kernel))
theorem d_MO_text_87 : decode b_MO_text 87 = .ok (.getfield 25, 3) := dc_180 (qU2_win (r := 87) wn_MO_text_0 (by decide +kernel))
theorem d_MO_text_90 : decode b_MO_text 90 = .ok (.bipush 48, 2) := dc_16 (qS1_win (r := 90) wn_MO_text_0 (by decide +kernel))
theorem d_MO_text_92 : decode b_MO_text 92 = .ok (.iload_n 2, 1) := dc_28 (q0_win (r := 92) wn_MO_text_0 (by decide +kernel))
theorem d_MO_text_93 : decode b_MO_text 93 = .ok (.iadd, 1) := dc_96 (q0_win (r := 93) wn_MO_text_0 (by decide +kernel))
theorem d_MO_text_94 : decode b_MO_text 94 = .ok (.iconst 0, 1) := dc_3 (q0_win (r := 94) wn_MO_text_0 (by decide +kernel))
theorem d_MO_text_95 : decode b_MO_text 95 = .ok (.iastore, 1) := dc_79 (q0_win (r := 95) wn_MO_text_0 (by decide +kernel))
theorem wn_MO_text_96 : ∀ i, i < 96 → bA b_MO_text (96 + i) = wB [42, 180, 0, 28, 16, 48, 28, 96, 3, 84, 42, 180, 0, 32, 16, 48, 28, 96, 3, 84, 132, 2, 1, 167, 255, 217, 5, 61, 28, 7, 162, 0, 23, 42, 180, 0, 44, 28, 3, 79, 42, 180, 0, 47, 28, 3, 79, 132, 2, 1, 167, 255, 234, 42, 3, 181, 0, 229, 42, 3, 181, 1, 7, 42, 3, 181, 1, 50, 42, 3, 181, 1, 23, 42, 182, 0, 205, 42, 180, 0, 199, 154, 0, 18, 42, 180, 0, 164, 7, 159, 0, 10, 42, 182, 1, 53] i := wB_of (by decide +kernel)
theorem d_MO_text_96 : decode b_MO_text 96 = .ok (.aload_n 0, 1) := dc_42 (q0_win (r := 0) wn_MO_text_96 (by decide +kernel))
theorem d_MO_text_97 : decode b_MO_text 97 = .ok (.getfield 28, 3) := dc_180 (qU2_win (r := 1) wn_MO_text_96 (by decide +kernel))
theorem d_MO_text_100 : decode b_MO_text 100 = .ok (.bipush 48, 2) := dc_16 (qS1_win (r := 4) wn_MO_text_96 (by decide +kernel))
theorem d_MO_text_102 : decode b_MO_text 102 = .ok (.iload_n 2, 1) := dc_28 (q0_win (r := 6) wn_MO_text_96 (by decide +kernel))
theorem d_MO_text_103 : decode b_MO_text 103 = .ok (.iadd, 1) := dc_96 (q0_win (r := 7) wn_MO_text_96 (by decide +kernel))
theorem d_MO_text_104 : decode b_MO_text 104 = .ok (.iconst 0, 1) := dc_3 (q0_win (r := 8) wn_MO_text_96 (by decide +kernel))
theorem d_MO_text_105 : decode b_MO_text 105 = .ok (.bastore, 1) := dc_84 (q0_win (r := 9) wn_MO_text_96 (by decide +kernel))
theorem d_MO_text_106 : decode b_MO_text 106 = .ok (.aload_n 0, 1) := dc_42 (q0_win (r := 10) wn_MO_text_96 (by decide +kernel))
theorem d_MO_text_107 : decode b_MO_text 107 = .ok (.getfield 32, 3) := dc_180 (qU2_win (r := 11) wn_MO_text_96 (by decide +kernel))
theorem d_MO_text_110 : decode b_MO_text 110 = .ok (.bipush 48, 2) := dc_16 (qS1_win (r := 14) wn_MO_text_96 (by decide +kernel))
theorem d_MO_text_112 : decode b_MO_text 112 = .ok (.iload_n 2, 1) := dc_28 (q0_win (r := 16) wn_MO_text_96 (by decide +kernel))
theorem d_MO_text_113 : decode b_MO_text 113 = .ok (.iadd, 1) := dc_96 (q0_win (r := 17) wn_MO_text_96 (by decide +kernel))
theorem d_MO_text_114 : decode b_MO_text 114 = .ok (.iconst 0, 1) := dc_3 (q0_win (r := 18) wn_MO_text_96 (by decide +kernel))
theorem d_MO_text_115 : decode b_MO_text 115 = .ok (.bastore, 1) := dc_84 (q0_win (r := 19) wn_MO_text_96 (by decide +kernel))
theorem d_MO_text_116 : decode b_MO_text 116 = .ok (.iinc 2 1, 3) := dc_132 (qI_win (r := 20) wn_MO_text_96 (by decide +kernel))
theorem d_MO_text_119 : decode b_MO_text 119 = .ok (.goto (-39), 3) := dc_167 (qS2_win (r := 23) wn_MO_text_96 (by decide +kernel))
theorem d_MO_text_122 : decode b_MO_text 122 = .ok (.iconst 2, 1) := dc_5 (q0_win (r := 26) wn_MO_text_96 (by decide +kernel))
theorem d_MO_text_123 : decode b_MO_text 123 = .ok (.istore_n 2, 1) := dc_61 (q0_win (r := 27) wn_MO_text_96 (by decide +kernel))
theorem d_MO_text_124 : decode b_MO_text 124 = .ok (.iload_n 2, 1) := dc_28 (q0_win (r := 28) wn_MO_text_96 (by decide +kernel))
theorem d_MO_text_125 : decode b_MO_text 125 = .ok (.iconst 4, 1) := dc_7 (q0_win (r := 29) wn_MO_text_96 (by decide +kernel))
theorem d_MO_text_126 : decode b_MO_text 126 = .ok (.if_icmp .ge 23, 3) := dc_162 (qS2_win (r := 30) wn_MO_text_96 (by decide +kernel))
theorem d_MO_text_129 : decode b_MO_text 129 = .ok (.aload_n 0, 1) := dc_42 (q0_win (r := 33) wn_MO_text_96 (by decide +kernel))
theorem d_MO_text_130 : decode b_MO_text 130 = .ok (.getfield 44, 3) := dc_180 (qU2_win (r := 34) wn_MO_text_96 (by decide +kernel))
theorem d_MO_text_133 : decode b_MO_text 133 = .ok (.iload_n 2, 1) := dc_28 (q0_win (r := 37) wn_MO_text_96 (by decide +kernel))
theorem d_MO_text_134 : decode b_MO_text 134 = .ok (.iconst 0, 1) := dc_3 (q0_win (r := 38) wn_MO_text_96 (by decide +kernel))
theorem d_MO_text_135 : decode b_MO_text 135 = .ok (.iastore, 1) := dc_79 (q0_win (r := 39) wn_MO_text_96 (by decide +kernel))
theorem d_MO_text_136 : decode b_MO_text 136 = .ok (.aload_n 0, 1) := dc_42 (q0_win (r := 40) wn_MO_text_96 (by decide +kernel))
theorem d_MO_text_137 : decode b_MO_text 137 = .ok (.getfield 47, 3) := dc_180 (qU2_win (r := 41) wn_MO_text_96 (by decide +kernel))
theorem d_MO_text_140 : decode b_MO_text 140 = .ok (.iload_n 2, 1) := dc_28 (q0_win (r := 44) wn_MO_text_96 (by decide +kernel))
theorem d_MO_text_141 : decode b_MO_text 141 = .ok (.iconst 0, 1) := dc_3 (q0_win (r := 45) wn_MO_text_96 (by decide +kernel))
theorem d_MO_text_142 : decode b_MO_text 142 = .ok (.iastore, 1) := dc_79 (q0_win (r := 46) wn_MO_text_96 (by decide +kernel))
theorem d_MO_text_143 : decode b_MO_text 143 = .ok (.iinc 2 1, 3) := dc_132 (qI_win (r := 47) wn_MO_text_96 (by decide +kernel))
theorem d_MO_text_146 : decode b_MO_text 146 = .ok (.goto (-22), 3) := dc_167 (qS2_win (r := 50) wn_MO_text_96 (by decide +kernel))
theorem d_MO_text_149 : decode b_MO_text 149 = .ok (.aload_n 0, 1) := dc_42 (q0_win (r := 53) wn_MO_text_96 (by decide +kernel))
theorem d_MO_text_150 : decode b_MO_text 150 = .ok (.iconst 0, 1) := dc_3 (q0_win (r := 54) wn_MO_text_96 (by decide +kernel))
theorem d_MO_text_151 : decode b_MO_text 151 = .ok (.putfield 229, 3) := dc_181 (qU2_win (r := 55) wn_MO_text_96 (by decide +kernel))
theorem d_MO_text_154 : decode b_MO_text 154 = .ok (.aload_n 0, 1) := dc_42 (q0_win (r := 58) wn_MO_text_96 (by decide +kernel))
theorem d_MO_text_155 : decode b_MO_text 155 = .ok (.iconst 0, 1) := dc_3 (q0_win (r := 59) wn_MO_text_96 (by decide +kernel))
theorem d_MO_text_156 : decode b_MO_text 156 = .ok (.putfield 263, 3) := dc_181 (qU2_win (r := 60) wn_MO_text_96 (by decide +kernel))
theorem d_MO_text_159 : decode b_MO_text 159 = .ok (.aload_n 0, 1) := dc_42 (q0_win (r := 63) wn_MO_text_96 (by decide +kernel))
theorem d_MO_text_160 : decode b_MO_text 160 = .ok (.iconst 0, 1) := dc_3 (q0_win (r := 64) wn_MO_text_96 (by decide +kernel))
theorem d_MO_text_161 : decode b_MO_text 161 = .ok (.putfield 306, 3) := dc_181 (qU2_win (r := 65) wn_MO_text_96 (by decide +kernel))
theorem d_MO_text_164 : decode b_MO_text 164 = .ok (.aload_n 0, 1) := dc_42 (q0_win (r := 68) wn_MO_text_96 (by decide +kernel))
theorem d_MO_text_165 : decode b_MO_text 165 = .ok (.iconst 0, 1) := dc_3 (q0_win (r := 69) wn_MO_text_96 (by decide +kernel))
theorem d_MO_text_166 : decode b_MO_text 166 = .ok (.putfield 279, 3) := dc_181 (qU2_win (r := 70) wn_MO_text_96 (by decide +kernel))
theorem d_MO_text_169 : decode b_MO_text 169 = .ok (.aload_n 0, 1) := dc_42 (q0_win (r := 73) wn_MO_text_96 (by decide +kernel))
theorem d_MO_text_170 : decode b_MO_text 170 = .ok (.invokevirtual 205, 3) := dc_182 (qU2_win (r := 74) wn_MO_text_96 (by decide +kernel))
theorem d_MO_text_173 : decode b_MO_text 173 = .ok (.aload_n 0, 1) := dc_42 (q0_win (r := 77) wn_MO_text_96 (by decide +kernel))
theorem d_MO_text_174 : decode b_MO_text 174 = .ok (.getfield 199, 3) := dc_180 (qU2_win (r := 78) wn_MO_text_96 (by decide +kernel))
theorem d_MO_text_177 : decode b_MO_text 177 = .ok (.ifCond .ne 18, 3) := dc_154 (qS2_win (r := 81) wn_MO_text_96 (by decide +kernel))
theorem d_MO_text_180 : decode b_MO_text 180 = .ok (.aload_n 0, 1) := dc_42 (q0_win (r := 84) wn_MO_text_96 (by decide +kernel))
theorem d_MO_text_181 : decode b_MO_text 181 = .ok (.getfield 164, 3) := dc_180 (qU2_win (r := 85) wn_MO_text_96 (by decide +kernel))
theorem d_MO_text_184 : decode b_MO_text 184 = .ok (.iconst 4, 1) := dc_7 (q0_win (r := 88) wn_MO_text_96 (by decide +kernel))
theorem d_MO_text_185 : decode b_MO_text 185 = .ok (.if_icmp .eq 10, 3) := dc_159 (qS2_win (r := 89) wn_MO_text_96 (by decide +kernel))
theorem d_MO_text_188 : decode b_MO_text 188 = .ok (.aload_n 0, 1) := dc_42 (q0_win (r := 92) wn_MO_text_96 (by decide +kernel))
theorem d_MO_text_189 : decode b_MO_text 189 = .ok (.invokevirtual 309, 3) := dc_182 (qU2_win (r := 93) wn_MO_text_96 (by decide +kernel))
theorem wn_MO_text_192 : ∀ i, i < 95 → bA b_MO_text (192 + i) = wB [167, 255, 237, 42, 42, 180, 0, 199, 181, 1, 56, 42, 42, 180, 0, 202, 181, 0, 56, 42, 180, 0, 199, 153, 0, 5, 2, 172, 42, 180, 0, 13, 184, 1, 59, 42, 180, 0, 16, 184, 1, 59, 42, 180, 0, 19, 184, 1, 59, 42, 180, 0, 22, 184, 1, 59, 42, 180, 0, 25, 184, 1, 59, 3, 61, 28, 16, 48, 162, 0, 39, 42, 180, 0, 28, 28, 42, 180, 0, 28, 16, 48, 28, 96, 51, 84, 42, 180, 0, 32, 28, 42, 180, 0, 32] i := wB_of (by decide +kernel)
theorem d_MO_text_192 : decode b_MO_text 192 = .ok (.goto (-19), 3) := dc_167 (qS2_win (r := 0) wn_MO_text_192 (by decide +kernel))
theorem d_MO_text_195 : decode b_MO_text 195 = .ok (.aload_n 0, 1) := dc_42 (q0_win (r := 3) wn_MO_text_192 (by decide +kernel))
theorem d_MO_text_196 : decode b_MO_text 196 = .ok (.aload_n 0, 1) := dc_42 (q0_win (r := 4) wn_MO_text_192 (by decide +kernel))
theorem d_MO_text_197 : decode b_MO_text 197 = .ok (.getfield 199, 3) := dc_180 (qU2_win (r := 5) wn_MO_text_192 (by decide +kernel))
theorem d_MO_text_200 : decode b_MO_text 200 = .ok (.putfield 312, 3) := dc_181 (qU2_win (r := 8) wn_MO_text_192 (by decide +kernel))
theorem d_MO_text_203 : decode b_MO_text 203 = .ok (.aload_n 0, 1) := dc_42 (q0_win (r := 11) wn_MO_text_192 (by decide +kernel))
theorem d_MO_text_204 : decode b_MO_text 204 = .ok (.aload_n 0, 1) := dc_42 (q0_win (r := 12) wn_MO_text_192 (by decide +kernel))
theorem d_MO_text_205 : decode b_MO_text 205 = .ok (.getfield 202, 3) := dc_180 (qU2_win (r := 13) wn_MO_text_192 (by decide +kernel))
theorem d_MO_text_208 : decode b_MO_text 208 = .ok (.putfield 56, 3) := dc_181 (qU2_win (r := 16) wn_MO_text_192 (by decide +kernel))
theorem d_MO_text_211 : decode b_MO_text 211 = .ok (.aload_n 0, 1) := dc_42 (q0_win (r := 19) wn_MO_text_192 (by decide +kernel))
theorem d_MO_text_212 : decode b_MO_text 212 = .ok (.getfield 199, 3) := dc_180 (qU2_win (r := 20) wn_MO_text_192 (by decide +kernel))
theorem d_MO_text_215 : decode b_MO_text 215 = .ok (.ifCond .eq 5, 3) := dc_153 (qS2_win (r := 23) wn_MO_text_192 (by decide +kernel))
theorem d_MO_text_218 : decode b_MO_text 218 = .ok (.iconst (-1), 1) := dc_2 (q0_win (r := 26) wn_MO_text_192 (by decide +kernel))
theorem d_MO_text_219 : decode b_MO_text 219 = .ok (.ireturn, 1) := dc_172 (q0_win (r := 27) wn_MO_text_192 (by decide +kernel))
theorem d_MO_text_220 : decode b_MO_text 220 = .ok (.aload_n 0, 1) := dc_42 (q0_win (r := 28) wn_MO_text_192 (by decide +kernel))
theorem d_MO_text_221 : decode b_MO_text 221 = .ok (.getfield 13, 3) := dc_180 (qU2_win (r := 29) wn_MO_text_192 (by decide +kernel))
theorem d_MO_text_224 : decode b_MO_text 224 = .ok (.invokestatic 315, 3) := dc_184 (qU2_win (r := 32) wn_MO_text_192 (by decide +kernel))
theorem d_MO_text_227 : decode b_MO_text 227 = .ok (.aload_n 0, 1) := dc_42 (q0_win (r := 35) wn_MO_text_192 (by decide +kernel))
theorem d_MO_text_228 : decode b_MO_text 228 = .ok (.getfield 16, 3) := dc_180 (qU2_win (r := 36) wn_MO_text_192 (by decide +kernel))
theorem d_MO_text_231 : decode b_MO_text 231 = .ok (.invokestatic 315, 3) := dc_184 (qU2_win (r := 39) wn_MO_text_192 (by decide +kernel))
theorem d_MO_text_234 : decode b_MO_text 234 = .ok (.aload_n 0, 1) := dc_42 (q0_win (r := 42) wn_MO_text_192 (by decide +kernel))
theorem d_MO_text_235 : decode b_MO_text 235 = .ok (.getfield 19, 3) := dc_180 (qU2_win (r := 43) wn_MO_text_192 (by decide +kernel))
theorem d_MO_text_238 : decode b_MO_text 238 = .ok (.invokestatic 315, 3) := dc_184 (qU2_win (r := 46) wn_MO_text_192 (by decide +kernel))
theorem d_MO_text_241 : decode b_MO_text 241 = .ok (.aload_n 0, 1) := dc_42 (q0_win (r := 49) wn_MO_text_192 (by decide +kernel))
theorem d_MO_text_242 : decode b_MO_text 242 = .ok (.getfield 22, 3) := dc_180 (qU2_win (r := 50) wn_MO_text_192 (by decide +kernel))
theorem d_MO_text_245 : decode b_MO_text 245 = .ok (.invokestatic 315, 3) := dc_184 (qU2_win (r := 53) wn_MO_text_192 (by decide +kernel))
theorem d_MO_text_248 : decode b_MO_text 248 = .ok (.aload_n 0, 1) := dc_42 (q0_win (r := 56) wn_MO_text_192 (by decide +kernel))
theorem d_MO_text_249 : decode b_MO_text 249 = .ok (.getfield 25, 3) := dc_180 (qU2_win (r := 57) wn_MO_text_192 (by decide +kernel))
theorem d_MO_text_252 : decode b_MO_text 252 = .ok (.invokestatic 315, 3) := dc_184 (qU2_win (r := 60) wn_MO_text_192 (by decide +kernel))
theorem d_MO_text_255 : decode b_MO_text 255 = .ok (.iconst 0, 1) := dc_3 (q0_win (r := 63) wn_MO_text_192 (by decide +kernel))
theorem d_MO_text_256 : decode b_MO_text 256 = .ok (.istore_n 2, 1) := dc_61 (q0_win (r := 64) wn_MO_text_192 (by decide +kernel))
theorem d_MO_text_257 : decode b_MO_text 257 = .ok (.iload_n 2, 1) := dc_28 (q0_win (r := 65) wn_MO_text_192 (by decide +kernel))
theorem d_MO_text_258 : decode b_MO_text 258 = .ok (.bipush 48, 2) := dc_16 (qS1_win (r := 66) wn_MO_text_192 (by decide +kernel))
theorem d_MO_text_260 : decode b_MO_text 260 = .ok (.if_icmp .ge 39, 3) := dc_162 (qS2_win (r := 68) wn_MO_text_192 (by decide +kernel))
theorem d_MO_text_263 : decode b_MO_text 263 = .ok (.aload_n 0, 1) := dc_42 (q0_win (r := 71) wn_MO_text_192 (by decide +kernel))
theorem d_MO_text_264 : decode b_MO_text 264 = .ok (.getfield 28, 3) := dc_180 (qU2_win (r := 72) wn_MO_text_192 (by decide +kernel))
theorem d_MO_text_267 : decode b_MO_text 267 = .ok (.iload_n 2, 1) := dc_28 (q0_win (r := 75) wn_MO_text_192 (by decide +kernel))
theorem d_MO_text_268 : decode b_MO_text 268 = .ok (.aload_n 0, 1) := dc_42 (q0_win (r := 76) wn_MO_text_192 (by decide +kernel))
theorem d_MO_text_269 : decode b_MO_text 269 = .ok (.getfield 28, 3) := dc_180 (qU2_win (r := 77) wn_MO_text_192 (by decide +kernel))
theorem d_MO_text_272 : decode b_MO_text 272 = .ok (.bipush 48, 2) := dc_16 (qS1_win (r := 80) wn_MO_text_192 (by decide +kernel))
theorem d_MO_text_274 : decode b_MO_text 274 = .ok (.iload_n 2, 1) := dc_28 (q0_win (r := 82) wn_MO_text_192 (by decide +kernel))
theorem d_MO_text_275 : decode b_MO_text 275 = .ok (.iadd, 1) := dc_96 (q0_win (r := 83) wn_MO_text_192 (by decide +kernel))
theorem d_MO_text_276 : decode b_MO_text 276 = .ok (.baload, 1) := dc_51 (q0_win (r := 84) wn_MO_text_192 (by decide +kernel))
theorem d_MO_text_277 : decode b_MO_text 277 = .ok (.bastore, 1) := dc_84 (q0_win (r := 85) wn_MO_text_192 (by decide +kernel))
theorem d_MO_text_278 : decode b_MO_text 278 = .ok (.aload_n 0, 1) := dc_42 (q0_win (r := 86) wn_MO_text_192 (by decide +kernel))
theorem d_MO_text_279 : decode b_MO_text 279 = .ok (.getfield 32, 3) := dc_180 (qU2_win (r := 87) wn_MO_text_192 (by decide +kernel))
theorem d_MO_text_282 : decode b_MO_text 282 = .ok (.iload_n 2, 1) := dc_28 (q0_win (r := 90) wn_MO_text_192 (by decide +kernel))
theorem d_MO_text_283 : decode b_MO_text 283 = .ok (.aload_n 0, 1) := dc_42 (q0_win (r := 91) wn_MO_text_192 (by decide +kernel))
theorem d_MO_text_284 : decode b_MO_text 284 = .ok (.getfield 32, 3) := dc_180 (qU2_win (r := 92) wn_MO_text_192 (by decide +kernel))
theorem wn_MO_text_287 : ∀ i, i < 90 → bA b_MO_text (287 + i) = wB [16, 48, 28, 96, 51, 84, 132, 2, 1, 167, 255, 217, 42, 180, 0, 35, 184, 1, 59, 42, 180, 0, 38, 184, 1, 59, 42, 180, 0, 41, 184, 1, 59, 42, 180, 0, 44, 184, 1, 59, 42, 180, 0, 47, 184, 1, 59, 42, 180, 0, 50, 184, 1, 59, 42, 180, 0, 53, 184, 1, 59, 42, 3, 181, 1, 63, 42, 2, 181, 0, 124, 42, 3, 181, 1, 66, 42, 3, 181, 1, 70, 42, 182, 0, 142, 42, 180, 1, 7, 172] i := wB_of (by decide +kernel)
theorem d_MO_text_287 : decode b_MO_text 287 = .ok (.bipush 48, 2) := dc_16 (qS1_win (r := 0) wn_MO_text_287 (by decide +kernel))
theorem d_MO_text_289 : decode b_MO_text 289 = .ok (.iload_n 2, 1) := dc_28 (q0_win (r := 2) wn_MO_text_287 (by decide +kernel))
theorem d_MO_text_290 : decode b_MO_text 290 = .ok (.iadd, 1) := dc_96 (q0_win (r := 3) wn_MO_text_287 (by decide +kernel))
theorem d_MO_text_291 : decode b_MO_text 291 = .ok (.baload, 1) := dc_51 (q0_win (r := 4) wn_MO_text_287 (by decide +kernel))
theorem d_MO_text_292 : decode b_MO_text 292 = .ok (.bastore, 1) := dc_84 (q0_win (r := 5) wn_MO_text_287 (by decide +kernel))
theorem d_MO_text_293 : decode b_MO_text 293 = .ok (.iinc 2 1, 3) := dc_132 (qI_win (r := 6) wn_MO_text_287 (by decide +kernel))
theorem d_MO_text_296 : decode b_MO_text 296 = .ok (.goto (-39), 3) := dc_167 (qS2_win (r := 9) wn_MO_text_287 (by decide +kernel))
theorem d_MO_text_299 : decode b_MO_text 299 = .ok (.aload_n 0, 1) := dc_42 (q0_win (r := 12) wn_MO_text_287 (by decide +kernel))
theorem d_MO_text_300 : decode b_MO_text 300 = .ok (.getfield 35, 3) := dc_180 (qU2_win (r := 13) wn_MO_text_287 (by decide +kernel))
theorem d_MO_text_303 : decode b_MO_text 303 = .ok (.invokestatic 315, 3) := dc_184 (qU2_win (r := 16) wn_MO_text_287 (by decide +kernel))
theorem d_MO_text_306 : decode b_MO_text 306 = .ok (.aload_n 0, 1) := dc_42 (q0_win (r := 19) wn_MO_text_287 (by decide +kernel))
theorem d_MO_text_307 : decode b_MO_text 307 = .ok (.getfield 38, 3) := dc_180 (qU2_win (r := 20) wn_MO_text_287 (by decide +kernel))
theorem d_MO_text_310 : decode b_MO_text 310 = .ok (.invokestatic 315, 3) := dc_184 (qU2_win (r := 23) wn_MO_text_287 (by decide +kernel))
theorem d_MO_text_313 : decode b_MO_text 313 = .ok (.aload_n 0, 1) := dc_42 (q0_win (r := 26) wn_MO_text_287 (by decide +kernel))
theorem d_MO_text_314 : decode b_MO_text 314 = .ok (.getfield 41, 3) := dc_180 (qU2_win (r := 27) wn_MO_text_287 (by decide +kernel))
theorem d_MO_text_317 : decode b_MO_text 317 = .ok (.invokestatic 315, 3) := dc_184 (qU2_win (r := 30) wn_MO_text_287 (by decide +kernel))
theorem d_MO_text_320 : decode b_MO_text 320 = .ok (.aload_n 0, 1) := dc_42 (q0_win (r := 33) wn_MO_text_287 (by decide +kernel))
theorem d_MO_text_321 : decode b_MO_text 321 = .ok (.getfield 44, 3) := dc_180 (qU2_win (r := 34) wn_MO_text_287 (by decide +kernel))
theorem d_MO_text_324 : decode b_MO_text 324 = .ok (.invokestatic 315, 3) := dc_184 (qU2_win (r := 37) wn_MO_text_287 (by decide +kernel))
theorem d_MO_text_327 : decode b_MO_text 327 = .ok (.aload_n 0, 1) := dc_42 (q0_win (r := 40) wn_MO_text_287 (by decide +kernel))
theorem d_MO_text_328 : decode b_MO_text 328 = .ok (.getfield 47, 3) := dc_180 (qU2_win (r := 41) wn_MO_text_287 (by decide +kernel))
theorem d_MO_text_331 : decode b_MO_text 331 = .ok (.invokestatic 315, 3) := dc_184 (qU2_win (r := 44) wn_MO_text_287 (by decide +kernel))
theorem d_MO_text_334 : decode b_MO_text 334 = .ok (.aload_n 0, 1) := dc_42 (q0_win (r := 47) wn_MO_text_287 (by decide +kernel))
theorem d_MO_text_335 : decode b_MO_text 335 = .ok (.getfield 50, 3) := dc_180 (qU2_win (r := 48) wn_MO_text_287 (by decide +kernel))
theorem d_MO_text_338 : decode b_MO_text 338 = .ok (.invokestatic 315, 3) := dc_184 (qU2_win (r := 51) wn_MO_text_287 (by decide +kernel))
theorem d_MO_text_341 : decode b_MO_text 341 = .ok (.aload_n 0, 1) := dc_42 (q0_win (r := 54) wn_MO_text_287 (by decide +kernel))
theorem d_MO_text_342 : decode b_MO_text 342 = .ok (.getfield 53, 3) := dc_180 (qU2_win (r := 55) wn_MO_text_287 (by decide +kernel))
theorem d_MO_text_345 : decode b_MO_text 345 = .ok (.invokestatic 315, 3) := dc_184 (qU2_win (r := 58) wn_MO_text_287 (by decide +kernel))
theorem d_MO_text_348 : decode b_MO_text 348 = .ok (.aload_n 0, 1) := dc_42 (q0_win (r := 61) wn_MO_text_287 (by decide +kernel))
theorem d_MO_text_349 : decode b_MO_text 349 = .ok (.iconst 0, 1) := dc_3 (q0_win (r := 62) wn_MO_text_287 (by decide +kernel))
theorem d_MO_text_350 : decode b_MO_text 350 = .ok (.putfield 319, 3) := dc_181 (qU2_win (r := 63) wn_MO_text_287 (by decide +kernel))
theorem d_MO_text_353 : decode b_MO_text 353 = .ok (.aload_n 0, 1) := dc_42 (q0_win (r := 66) wn_MO_text_287 (by decide +kernel))
theorem d_MO_text_354 : decode b_MO_text 354 = .ok (.iconst (-1), 1) := dc_2 (q0_win (r := 67) wn_MO_text_287 (by decide +kernel))
theorem d_MO_text_355 : decode b_MO_text 355 = .ok (.putfield 124, 3) := dc_181 (qU2_win (r := 68) wn_MO_text_287 (by decide +kernel))
theorem d_MO_text_358 : decode b_MO_text 358 = .ok (.aload_n 0, 1) := dc_42 (q0_win (r := 71) wn_MO_text_287 (by decide +kernel))
theorem d_MO_text_359 : decode b_MO_text 359 = .ok (.iconst 0, 1) := dc_3 (q0_win (r := 72) wn_MO_text_287 (by decide +kernel))
theorem d_MO_text_360 : decode b_MO_text 360 = .ok (.putfield 322, 3) := dc_181 (qU2_win (r := 73) wn_MO_text_287 (by decide +kernel))
theorem d_MO_text_363 : decode b_MO_text 363 = .ok (.aload_n 0, 1) := dc_42 (q0_win (r := 76) wn_MO_text_287 (by decide +kernel))
theorem d_MO_text_364 : decode b_MO_text 364 = .ok (.iconst 0, 1) := dc_3 (q0_win (r := 77) wn_MO_text_287 (by decide +kernel))
theorem d_MO_text_365 : decode b_MO_text 365 = .ok (.putfield 326, 3) := dc_181 (qU2_win (r := 78) wn_MO_text_287 (by decide +kernel))
theorem d_MO_text_368 : decode b_MO_text 368 = .ok (.aload_n 0, 1) := dc_42 (q0_win (r := 81) wn_MO_text_287 (by decide +kernel))
theorem d_MO_text_369 : decode b_MO_text 369 = .ok (.invokevirtual 142, 3) := dc_182 (qU2_win (r := 82) wn_MO_text_287 (by decide +kernel))
theorem d_MO_text_372 : decode b_MO_text 372 = .ok (.aload_n 0, 1) := dc_42 (q0_win (r := 85) wn_MO_text_287 (by decide +kernel))
theorem d_MO_text_373 : decode b_MO_text 373 = .ok (.getfield 263, 3) := dc_180 (qU2_win (r := 86) wn_MO_text_287 (by decide +kernel))
theorem d_MO_text_376 : decode b_MO_text 376 = .ok (.ireturn, 1) := dc_172 (q0_win (r := 89) wn_MO_text_287 (by decide +kernel))
def t_MO_text_L69 (x1 : Int) (bk47 : Mem → Int → Option (Mem × Int)) (M : Mem) (v1_ : Int) (v3_ : Int) (v4_ : Int) : Option (Mem × Int) := (obind (t_MO_reads M v3_ v4_) fun q20 => (bk47 q20 (w32 (v1_ + 1))))
def t_MO_text_L64 (x1 : Int) (bk47 : Mem → Int → Option (Mem × Int)) (M : Mem) (v1_ : Int) (v3_ : Int) : Option (Mem × Int) := (t_MO_text_L69 x1 bk47 M v1_ v3_ 4)
def t_MO_text_L257 (x1 : Int)  : Nat → Mem → Int → Option (Mem × Int)
  | 0, _, _ => none
  | fu + 1, M, v1_ => (if 48 ≤ v1_ then (obind (t_MO_half M 200 16) fun q56 => (obind (t_MO_half q56 201 16) fun q58 => (obind (t_MO_half q58 202 16) fun q60 => (obind (t_MO_half q60 203 4) fun q62 => (obind (t_MO_half q62 204 4) fun q64 => (obind (t_MO_half q64 205 128) fun q66 => (obind (t_MO_half q66 206 128) fun q68 => (qlet (setI q68 191 60 0) fun M70 => (qlet (setI M70 191 61 (-1)) fun M71 => (qlet (setI M71 191 42 0) fun M72 => (qlet (setI M72 191 43 0) fun M73 => (obind (t_MO_begins M73) fun q74 => (some (q74, (q74.1 191 18))))))))))))))) else (qguard (0 ≤ (w32 (48 + v1_)) ∧ (w32 (48 + v1_)) < 96) (qguard (0 ≤ v1_ ∧ v1_ < 96) (qlet (setI M 198 v1_ (M.1 198 (w32 (48 + v1_)))) fun M80 => (qguard (0 ≤ (w32 (48 + v1_)) ∧ (w32 (48 + v1_)) < 96) (qguard (0 ≤ v1_ ∧ v1_ < 96) (qlet (setI M80 199 v1_ (M80.1 199 (w32 (48 + v1_)))) fun M84 => (t_MO_text_L257 x1 fu M84 (w32 (v1_ + 1))))))))))
def t_MO_text_L195 (x1 : Int)  (M : Mem)  : Option (Mem × Int) := (qlet (setI M 191 26 (M.1 191 24)) fun M40 => (qlet (setI M40 191 27 (M40.1 191 25)) fun M42 => (if (M42.1 191 24) = 0 then (obind (t_MO_half M42 193 18) fun q45 => (obind (t_MO_half q45 194 8) fun q47 => (obind (t_MO_half q47 195 8) fun q49 => (obind (t_MO_half q49 196 8) fun q51 => (obind (t_MO_half q51 197 96) fun q53 => (t_MO_text_L257 x1 FU q53 0)))))) else (some (M42, (-1))))))
def t_MO_text_L173 (x1 : Int)  : Nat → Mem → Option (Mem × Int)
  | 0, _ => none
  | fu + 1, M => (if (M.1 191 24) = 0 then (if (M.1 191 22) = 4 then (t_MO_text_L195 x1 M) else (obind (t_MO_line M) fun q37 => (t_MO_text_L173 x1 fu q37))) else (t_MO_text_L195 x1 M))
def t_MO_text_L124 (x1 : Int)  : Nat → Mem → Int → Option (Mem × Int)
  | 0, _, _ => none
  | fu + 1, M, v1_ => (if 4 ≤ v1_ then (qlet (setI M 191 17 0) fun M23 => (qlet (setI M23 191 18 0) fun M24 => (qlet (setI M24 191 28 0) fun M25 => (qlet (setI M25 191 29 0) fun M26 => (obind (t_MO_token M26) fun q27 => (t_MO_text_L173 x1 FU q27)))))) else (qguard (0 ≤ v1_ ∧ v1_ < 4) (qlet (setI M 203 v1_ 0) fun M30 => (qguard (0 ≤ v1_ ∧ v1_ < 4) (qlet (setI M30 204 v1_ 0) fun M32 => (t_MO_text_L124 x1 fu M32 (w32 (v1_ + 1))))))))
def t_MO_text_L80 (x1 : Int)  : Nat → Mem → Int → Option (Mem × Int)
  | 0, _, _ => none
  | fu + 1, M, v1_ => (if 48 ≤ v1_ then (t_MO_text_L124 x1 FU M 2) else (qguard (0 ≤ (w32 (48 + v1_)) ∧ (w32 (48 + v1_)) < 96) (qlet (setI M 197 (w32 (48 + v1_)) 0) fun M15 => (qguard (0 ≤ (w32 (48 + v1_)) ∧ (w32 (48 + v1_)) < 96) (qlet (setI M15 198 (w32 (48 + v1_)) 0) fun M17 => (qguard (0 ≤ (w32 (48 + v1_)) ∧ (w32 (48 + v1_)) < 96) (qlet (setI M17 199 (w32 (48 + v1_)) 0) fun M19 => (t_MO_text_L80 x1 fu M19 (w32 (v1_ + 1))))))))))
def t_MO_text_L47 (x1 : Int)  : Nat → Mem → Int → Option (Mem × Int)
  | 0, _, _ => none
  | fu + 1, M, v1_ => (if 9 ≤ v1_ then (t_MO_text_L80 x1 FU M 0) else (if v1_ = 0 then (t_MO_text_L64 x1 (fun a0_ a1_ => t_MO_text_L47 x1 fu a0_ a1_) M v1_ v1_) else (if v1_ = 1 then (t_MO_text_L64 x1 (fun a0_ a1_ => t_MO_text_L47 x1 fu a0_ a1_) M v1_ v1_) else (t_MO_text_L69 x1 (fun a0_ a1_ => t_MO_text_L47 x1 fu a0_ a1_) M v1_ v1_ 0))))
def t_MO_text (M : Mem) (x1 : Int) : Option (Mem × Int) := (qlet (setI M 191 0 0) fun M1 => (if x1 < 0 then (some (M1, (-2))) else (if x1 ≤ (M1.1 191 2) then (qlet (setI M1 191 19 x1) fun M5 => (qlet (setI M5 191 2 0) fun M6 => (qlet (setI M6 191 20 0) fun M7 => (qlet (setI M7 191 24 0) fun M8 => (qlet (setI M8 191 25 (-1)) fun M9 => (t_MO_text_L47 x1 FU M9 0)))))) else (some (M1, (-2))))))
set_option maxHeartbeats 4000000 in
set_option maxRecDepth 100000 in
theorem k_MO_text_L69 (l : Launch) {p : Program} {e : Env} {s : State} {m : MethodId} {below : List Frame} {meth : Method} {c : Code} {b n : Nat} {C : CT} (hlo : 231 ≤ n) (x1 : Int) (hx1 : InR x1) (F : Cx b p m c b_MO_text 3 s ([.ref (b + 191), vI x1] : List Value).toArray "WardFallsModel" C n 231) (hlk : meth.locks = false) (hr : meth.sig.returnType = some .int) {res : Mem × Int} (bk47 : Mem → Int → Option (Mem × Int)) (hbk47 : ∀ (M : Mem) (v1_ : Int) (hv1_ : InR v1_) (H : Heap) (locs : List Loc) (ls : Array Slot), St b C n M s H locs → lv_has ls 3 [(0, .ref (b + 191)), (2, vI v1_)] → bk47 M v1_ = some res → W p l e (headSpec (wsM y_MO_text b_MO_text 3 (some .int)) (rmD 243)).room s m ([.ref (b + 191), vI x1] : List Value).toArray below meth c H locs 0 0 (MQ below (QI b C n res.1 res.2) ([.ref (b + 191), vI x1] : List Value).toArray s 0 0 (frb b)) (F0 m 47 ls [])) (M : Mem) (v1_ : Int) (hv1_ : InR v1_) (v3_ : Int) (hv3_ : InR v3_) (v4_ : Int) (hv4_ : InR v4_) (H : Heap) (locs : List Loc) (ls : Array Slot) (hS : St b C n M s H locs) (hl : lv_has ls 3 [(0, .ref (b + 191)), (2, vI v1_)]) (hT : t_MO_text_L69 x1 bk47 M v1_ v3_ v4_ = some res) : W p l e (headSpec (wsM y_MO_text b_MO_text 3 (some .int)) (rmD 243)).room s m ([.ref (b + 191), vI x1] : List Value).toArray below meth c H locs 0 0 (MQ below (QI b C n res.1 res.2) ([.ref (b + 191), vI x1] : List Value).toArray s 0 0 (frb b)) (F0 m 69 ls [vI v4_, vI v3_, .ref (b + 191)]) := by
  unfold t_MO_text_L69 at hT
  obtain ⟨q20, hq20, hT⟩ := q_obind hT
  refine r_backV F hS (r_runV (k := 191) (N := 68) (T := T1) (As := [vI v3_, vI v4_]) F hS (show 191 < 231 by decide) (show shK 191 = 5 from rfl) rfl (c_MO_reads l F.2.2.1 M v3_ v4_ hv3_ hv4_ _ hq20) gs_MO_238 hd_MO_reads ⟨Nat.le_of_ble_eq_true rfl, Nat.le_of_ble_eq_true rfl⟩ rfl hl.1 (Nat.le_of_ble_eq_true rfl) ⟨Nat.zero_le _, Nat.zero_le _⟩ rfl d_MO_text_69) (fun H locs hS => ?_)
  refine lv_iinc (v := Int32.ofInt (w32 (v1_ + 1))) (lv' := [(2, vI (w32 (v1_ + 1))), (0, .ref (b + 191))]) F.hx F.hb d_MO_text_72 hl (k := 1) rfl (q_of_add _ _) (Nat.le_of_ble_eq_true rfl) rfl (fun ls hl => ?_)
  refine lv_goto (tgt := 47) F.hx F.hb d_MO_text_75 (by decide) ?_
  exact hbk47 q20 (w32 (v1_ + 1)) (inr_w32 _) _ _ _ hS (lv_sub hl [1, 0] rfl) hT
set_option maxHeartbeats 4000000 in
set_option maxRecDepth 100000 in
theorem k_MO_text_L64 (l : Launch) {p : Program} {e : Env} {s : State} {m : MethodId} {below : List Frame} {meth : Method} {c : Code} {b n : Nat} {C : CT} (hlo : 231 ≤ n) (x1 : Int) (hx1 : InR x1) (F : Cx b p m c b_MO_text 3 s ([.ref (b + 191), vI x1] : List Value).toArray "WardFallsModel" C n 231) (hlk : meth.locks = false) (hr : meth.sig.returnType = some .int) {res : Mem × Int} (bk47 : Mem → Int → Option (Mem × Int)) (hbk47 : ∀ (M : Mem) (v1_ : Int) (hv1_ : InR v1_) (H : Heap) (locs : List Loc) (ls : Array Slot), St b C n M s H locs → lv_has ls 3 [(0, .ref (b + 191)), (2, vI v1_)] → bk47 M v1_ = some res → W p l e (headSpec (wsM y_MO_text b_MO_text 3 (some .int)) (rmD 243)).room s m ([.ref (b + 191), vI x1] : List Value).toArray below meth c H locs 0 0 (MQ below (QI b C n res.1 res.2) ([.ref (b + 191), vI x1] : List Value).toArray s 0 0 (frb b)) (F0 m 47 ls [])) (M : Mem) (v1_ : Int) (hv1_ : InR v1_) (v3_ : Int) (hv3_ : InR v3_) (H : Heap) (locs : List Loc) (ls : Array Slot) (hS : St b C n M s H locs) (hl : lv_has ls 3 [(0, .ref (b + 191)), (2, vI v1_)]) (hT : t_MO_text_L64 x1 bk47 M v1_ v3_ = some res) : W p l e (headSpec (wsM y_MO_text b_MO_text 3 (some .int)) (rmD 243)).room s m ([.ref (b + 191), vI x1] : List Value).toArray below meth c H locs 0 0 (MQ below (QI b C n res.1 res.2) ([.ref (b + 191), vI x1] : List Value).toArray s 0 0 (frb b)) (F0 m 64 ls [vI v3_, .ref (b + 191)]) := by
  unfold t_MO_text_L64 at hT
  refine r_iconst F.hx F.hb d_MO_text_64 ?_
  refine lv_goto (tgt := 69) F.hx F.hb d_MO_text_65 (by decide) ?_
  exact k_MO_text_L69 l hlo x1 hx1 F hlk hr bk47 hbk47 M v1_ hv1_ v3_ hv3_ 4 (inr_c rfl) _ _ _ hS (lv_sub hl [0, 1] rfl) hT
set_option maxHeartbeats 4000000 in
set_option maxRecDepth 100000 in
theorem k_MO_text_L257 (l : Launch) {p : Program} {e : Env} {s : State} {m : MethodId} {below : List Frame} {meth : Method} {c : Code} {b n : Nat} {C : CT} (hlo : 231 ≤ n) (x1 : Int) (hx1 : InR x1) (F : Cx b p m c b_MO_text 3 s ([.ref (b + 191), vI x1] : List Value).toArray "WardFallsModel" C n 231) (hlk : meth.locks = false) (hr : meth.sig.returnType = some .int) {res : Mem × Int} : ∀ (fu : Nat) (M : Mem) (v1_ : Int) (hv1_ : InR v1_) (H : Heap) (locs : List Loc) (ls : Array Slot), St b C n M s H locs → lv_has ls 3 [(0, .ref (b + 191)), (2, vI v1_)] → t_MO_text_L257 x1 fu M v1_ = some res → W p l e (headSpec (wsM y_MO_text b_MO_text 3 (some .int)) (rmD 243)).room s m ([.ref (b + 191), vI x1] : List Value).toArray below meth c H locs 0 0 (MQ below (QI b C n res.1 res.2) ([.ref (b + 191), vI x1] : List Value).toArray s 0 0 (frb b)) (F0 m 257 ls []) := by
  intro fu
  induction fu with
  | zero => intro M v1_ hv1_ H locs ls hS hl hT; exact absurd hT (by simp [t_MO_text_L257])
  | succ fu ih =>
    intro M v1_ hv1_ H locs ls hS hl hT
    rw [t_MO_text_L257] at hT
    refine lv_iload_n F.hx F.hb d_MO_text_257 rfl (lv_at hl 1 rfl) ?_
    refine r_bipush F.hx F.hb d_MO_text_258 rfl ?_
    refine r_icmp_ge (tgt := 299) F.hx F.hb hv1_ (inr_c rfl) d_MO_text_260 (by decide) (fun c55 => ?_) (fun c55 => ?_)
    · replace hT := (if_pos c55).symm.trans hT
      refine lv_aload_n F.hx F.hb d_MO_text_299 rfl (lv_at hl 0 rfl) ?_
      refine r_get (v := .ref (b + 200)) (N := 68) (T := T1) (j := 10) F hS (show 191 < 231 by decide) (show shK 191 = 5 from rfl) (show shN 191 = 68 from rfl) rfl (Nat.le_of_ble_eq_true rfl) ing1 mw_1399 (fv_sg rfl rfl rfl) d_MO_text_300 ?_
      obtain ⟨q56, hq56, hT⟩ := q_obind hT
      refine r_backV F hS (r_runS (As := [.ref (b + 200)]) F hS (c_MO_half l F.2.2.1 M 200 16 (show arrP 0 200 16 231 from ⟨rfl, rfl, by decide⟩) _ hq56) gs_MO_315 hd_MO_half ⟨Nat.le_of_ble_eq_true rfl, Nat.le_of_ble_eq_true rfl⟩ rfl hl.1 (Nat.le_of_ble_eq_true rfl) ⟨Nat.zero_le _, Nat.zero_le _⟩ rfl d_MO_text_303) (fun H locs hS => ?_)
      refine lv_aload_n F.hx F.hb d_MO_text_306 rfl (lv_at hl 0 rfl) ?_
      refine r_get (v := .ref (b + 201)) (N := 68) (T := T1) (j := 11) F hS (show 191 < 231 by decide) (show shK 191 = 5 from rfl) (show shN 191 = 68 from rfl) rfl (Nat.le_of_ble_eq_true rfl) ing1 mw_1400 (fv_sg rfl rfl rfl) d_MO_text_307 ?_
      obtain ⟨q58, hq58, hT⟩ := q_obind hT
      refine r_backV F hS (r_runS (As := [.ref (b + 201)]) F hS (c_MO_half l F.2.2.1 q56 201 16 (show arrP 0 201 16 231 from ⟨rfl, rfl, by decide⟩) _ hq58) gs_MO_315 hd_MO_half ⟨Nat.le_of_ble_eq_true rfl, Nat.le_of_ble_eq_true rfl⟩ rfl hl.1 (Nat.le_of_ble_eq_true rfl) ⟨Nat.zero_le _, Nat.zero_le _⟩ rfl d_MO_text_310) (fun H locs hS => ?_)
      refine lv_aload_n F.hx F.hb d_MO_text_313 rfl (lv_at hl 0 rfl) ?_
      refine r_get (v := .ref (b + 202)) (N := 68) (T := T1) (j := 12) F hS (show 191 < 231 by decide) (show shK 191 = 5 from rfl) (show shN 191 = 68 from rfl) rfl (Nat.le_of_ble_eq_true rfl) ing1 mw_1401 (fv_sg rfl rfl rfl) d_MO_text_314 ?_
      obtain ⟨q60, hq60, hT⟩ := q_obind hT
      refine r_backV F hS (r_runS (As := [.ref (b + 202)]) F hS (c_MO_half l F.2.2.1 q58 202 16 (show arrP 0 202 16 231 from ⟨rfl, rfl, by decide⟩) _ hq60) gs_MO_315 hd_MO_half ⟨Nat.le_of_ble_eq_true rfl, Nat.le_of_ble_eq_true rfl⟩ rfl hl.1 (Nat.le_of_ble_eq_true rfl) ⟨Nat.zero_le _, Nat.zero_le _⟩ rfl d_MO_text_317) (fun H locs hS => ?_)
      refine lv_aload_n F.hx F.hb d_MO_text_320 rfl (lv_at hl 0 rfl) ?_
      refine r_get (v := .ref (b + 203)) (N := 68) (T := T1) (j := 13) F hS (show 191 < 231 by decide) (show shK 191 = 5 from rfl) (show shN 191 = 68 from rfl) rfl (Nat.le_of_ble_eq_true rfl) ing1 mw_1402 (fv_sg rfl rfl rfl) d_MO_text_321 ?_
      obtain ⟨q62, hq62, hT⟩ := q_obind hT
      refine r_backV F hS (r_runS (As := [.ref (b + 203)]) F hS (c_MO_half l F.2.2.1 q60 203 4 (show arrP 0 203 4 231 from ⟨rfl, rfl, by decide⟩) _ hq62) gs_MO_315 hd_MO_half ⟨Nat.le_of_ble_eq_true rfl, Nat.le_of_ble_eq_true rfl⟩ rfl hl.1 (Nat.le_of_ble_eq_true rfl) ⟨Nat.zero_le _, Nat.zero_le _⟩ rfl d_MO_text_324) (fun H locs hS => ?_)
      refine lv_aload_n F.hx F.hb d_MO_text_327 rfl (lv_at hl 0 rfl) ?_
      refine r_get (v := .ref (b + 204)) (N := 68) (T := T1) (j := 14) F hS (show 191 < 231 by decide) (show shK 191 = 5 from rfl) (show shN 191 = 68 from rfl) rfl (Nat.le_of_ble_eq_true rfl) ing1 mw_1403 (fv_sg rfl rfl rfl) d_MO_text_328 ?_
      obtain ⟨q64, hq64, hT⟩ := q_obind hT
      refine r_backV F hS (r_runS (As := [.ref (b + 204)]) F hS (c_MO_half l F.2.2.1 q62 204 4 (show arrP 0 204 4 231 from ⟨rfl, rfl, by decide⟩) _ hq64) gs_MO_315 hd_MO_half ⟨Nat.le_of_ble_eq_true rfl, Nat.le_of_ble_eq_true rfl⟩ rfl hl.1 (Nat.le_of_ble_eq_true rfl) ⟨Nat.zero_le _, Nat.zero_le _⟩ rfl d_MO_text_331) (fun H locs hS => ?_)
      refine lv_aload_n F.hx F.hb d_MO_text_334 rfl (lv_at hl 0 rfl) ?_
      refine r_get (v := .ref (b + 205)) (N := 68) (T := T1) (j := 15) F hS (show 191 < 231 by decide) (show shK 191 = 5 from rfl) (show shN 191 = 68 from rfl) rfl (Nat.le_of_ble_eq_true rfl) ing1 mw_1404 (fv_sg rfl rfl rfl) d_MO_text_335 ?_
      obtain ⟨q66, hq66, hT⟩ := q_obind hT
      refine r_backV F hS (r_runS (As := [.ref (b + 205)]) F hS (c_MO_half l F.2.2.1 q64 205 128 (show arrP 0 205 128 231 from ⟨rfl, rfl, by decide⟩) _ hq66) gs_MO_315 hd_MO_half ⟨Nat.le_of_ble_eq_true rfl, Nat.le_of_ble_eq_true rfl⟩ rfl hl.1 (Nat.le_of_ble_eq_true rfl) ⟨Nat.zero_le _, Nat.zero_le _⟩ rfl d_MO_text_338) (fun H locs hS => ?_)
      refine lv_aload_n F.hx F.hb d_MO_text_341 rfl (lv_at hl 0 rfl) ?_
      refine r_get (v := .ref (b + 206)) (N := 68) (T := T1) (j := 16) F hS (show 191 < 231 by decide) (show shK 191 = 5 from rfl) (show shN 191 = 68 from rfl) rfl (Nat.le_of_ble_eq_true rfl) ing1 mw_1405 (fv_sg rfl rfl rfl) d_MO_text_342 ?_
      obtain ⟨q68, hq68, hT⟩ := q_obind hT
      refine r_backV F hS (r_runS (As := [.ref (b + 206)]) F hS (c_MO_half l F.2.2.1 q66 206 128 (show arrP 0 206 128 231 from ⟨rfl, rfl, by decide⟩) _ hq68) gs_MO_315 hd_MO_half ⟨Nat.le_of_ble_eq_true rfl, Nat.le_of_ble_eq_true rfl⟩ rfl hl.1 (Nat.le_of_ble_eq_true rfl) ⟨Nat.zero_le _, Nat.zero_le _⟩ rfl d_MO_text_345) (fun H locs hS => ?_)
      refine lv_aload_n F.hx F.hb d_MO_text_348 rfl (lv_at hl 0 rfl) ?_
      refine r_iconst F.hx F.hb d_MO_text_349 ?_
      refine r_putI (N := 68) (T := T1) (j := 60) F hS (show 191 < 231 by decide) (show shK 191 = 5 from rfl) (show shN 191 = 68 from rfl) rfl (Nat.le_of_ble_eq_true rfl) ing1 tyok1 nm1 rfl rfl rfl rfl rfl rfl mw_1449 (inr_c rfl) d_MO_text_350 (fun H locs hS => ?_)
      obtain ⟨M70, eM70⟩ : ∃ q, q = (setI q68 191 60 0) := ⟨_, rfl⟩
      replace hS : St b C n M70 s H locs := by rw [eM70]; exact hS
      replace hT := qlet_eq hT eM70
      refine lv_aload_n F.hx F.hb d_MO_text_353 rfl (lv_at hl 0 rfl) ?_
      refine r_iconst F.hx F.hb d_MO_text_354 ?_
      refine r_putI (N := 68) (T := T1) (j := 61) F hS (show 191 < 231 by decide) (show shK 191 = 5 from rfl) (show shN 191 = 68 from rfl) rfl (Nat.le_of_ble_eq_true rfl) ing1 tyok1 nm1 rfl rfl rfl rfl rfl rfl mw_1450 (inr_c rfl) d_MO_text_355 (fun H locs hS => ?_)
      obtain ⟨M71, eM71⟩ : ∃ q, q = (setI M70 191 61 (-1)) := ⟨_, rfl⟩
      replace hS : St b C n M71 s H locs := by rw [eM71]; exact hS
      replace hT := qlet_eq hT eM71
      refine lv_aload_n F.hx F.hb d_MO_text_358 rfl (lv_at hl 0 rfl) ?_
      refine r_iconst F.hx F.hb d_MO_text_359 ?_
      refine r_putI (N := 68) (T := T1) (j := 42) F hS (show 191 < 231 by decide) (show shK 191 = 5 from rfl) (show shN 191 = 68 from rfl) rfl (Nat.le_of_ble_eq_true rfl) ing1 tyok1 nm1 rfl rfl (nar_z (Or.inl rfl)) (fit_z (Or.inl rfl)) rfl rfl mw_1431 (inr_c rfl) d_MO_text_360 (fun H locs hS => ?_)
      obtain ⟨M72, eM72⟩ : ∃ q, q = (setI M71 191 42 0) := ⟨_, rfl⟩
      replace hS : St b C n M72 s H locs := by rw [eM72]; exact hS
      replace hT := qlet_eq hT eM72
      refine lv_aload_n F.hx F.hb d_MO_text_363 rfl (lv_at hl 0 rfl) ?_
      refine r_iconst F.hx F.hb d_MO_text_364 ?_
      refine r_putI (N := 68) (T := T1) (j := 43) F hS (show 191 < 231 by decide) (show shK 191 = 5 from rfl) (show shN 191 = 68 from rfl) rfl (Nat.le_of_ble_eq_true rfl) ing1 tyok1 nm1 rfl rfl rfl rfl rfl rfl mw_1432 (inr_c rfl) d_MO_text_365 (fun H locs hS => ?_)
      obtain ⟨M73, eM73⟩ : ∃ q, q = (setI M72 191 43 0) := ⟨_, rfl⟩
      replace hS : St b C n M73 s H locs := by rw [eM73]; exact hS
      replace hT := qlet_eq hT eM73
      refine lv_aload_n F.hx F.hb d_MO_text_368 rfl (lv_at hl 0 rfl) ?_
      obtain ⟨q74, hq74, hT⟩ := q_obind hT
      refine r_backV F hS (r_runV (k := 191) (N := 68) (T := T1) (As := []) F hS (show 191 < 231 by decide) (show shK 191 = 5 from rfl) rfl (c_MO_begins l F.2.2.1 M73 _ hq74) gs_MO_142 hd_MO_begins ⟨Nat.le_of_ble_eq_true rfl, Nat.le_of_ble_eq_true rfl⟩ rfl hl.1 (Nat.le_of_ble_eq_true rfl) ⟨Nat.zero_le _, Nat.zero_le _⟩ rfl d_MO_text_369) (fun H locs hS => ?_)
      refine lv_aload_n F.hx F.hb d_MO_text_372 rfl (lv_at hl 0 rfl) ?_
      refine r_get (v := vI (q74.1 191 18)) (N := 68) (T := T1) (j := 18) F hS (show 191 < 231 by decide) (show shK 191 = 5 from rfl) (show shN 191 = 68 from rfl) rfl (Nat.le_of_ble_eq_true rfl) ing1 mw_1407 (fv_int rfl) d_MO_text_373 ?_
      have i76 := hS.rng 191 18
      cases hT
      exact r_iret F hlk hr rfl hS i76 d_MO_text_376
    · replace hT := (if_neg c55).symm.trans hT
      refine lv_aload_n F.hx F.hb d_MO_text_263 rfl (lv_at hl 0 rfl) ?_
      refine r_get (v := .ref (b + 198)) (N := 68) (T := T1) (j := 8) F hS (show 191 < 231 by decide) (show shK 191 = 5 from rfl) (show shN 191 = 68 from rfl) rfl (Nat.le_of_ble_eq_true rfl) ing1 mw_1397 (fv_sg rfl rfl rfl) d_MO_text_264 ?_
      refine lv_iload_n F.hx F.hb d_MO_text_267 rfl (lv_at hl 1 rfl) ?_
      refine lv_aload_n F.hx F.hb d_MO_text_268 rfl (lv_at hl 0 rfl) ?_
      refine r_get (v := .ref (b + 198)) (N := 68) (T := T1) (j := 8) F hS (show 191 < 231 by decide) (show shK 191 = 5 from rfl) (show shN 191 = 68 from rfl) rfl (Nat.le_of_ble_eq_true rfl) ing1 mw_1397 (fv_sg rfl rfl rfl) d_MO_text_269 ?_
      refine r_bipush F.hx F.hb d_MO_text_272 rfl ?_
      refine lv_iload_n F.hx F.hb d_MO_text_274 rfl (lv_at hl 1 rfl) ?_
      refine r_iadd F.hx F.hb d_MO_text_275 ?_
      obtain ⟨⟨g77a, g77b⟩, hT⟩ := q_guard hT
      have z78 := hS.bool (show shK 198 = 1 from rfl) (w32 (48 + v1_))
      refine r_zald F hS (show 198 < 231 by decide) (show shK 198 = 1 from rfl) (show shN 198 = 96 from rfl) (inr_w32 _) g77a g77b d_MO_text_276 ?_
      obtain ⟨⟨g79a, g79b⟩, hT⟩ := q_guard hT
      refine r_zast F hS (show 198 < 231 by decide) (show shK 198 = 1 from rfl) (show shN 198 = 96 from rfl) hv1_ z78 g79a g79b d_MO_text_277 (fun H locs hS => ?_)
      obtain ⟨M80, eM80⟩ : ∃ q, q = (setI M 198 v1_ (M.1 198 (w32 (48 + v1_)))) := ⟨_, rfl⟩
      replace hS : St b C n M80 s H locs := by rw [eM80]; exact hS
      replace hT := qlet_eq hT eM80
      refine lv_aload_n F.hx F.hb d_MO_text_278 rfl (lv_at hl 0 rfl) ?_
      refine r_get (v := .ref (b + 199)) (N := 68) (T := T1) (j := 9) F hS (show 191 < 231 by decide) (show shK 191 = 5 from rfl) (show shN 191 = 68 from rfl) rfl (Nat.le_of_ble_eq_true rfl) ing1 mw_1398 (fv_sg rfl rfl rfl) d_MO_text_279 ?_
      refine lv_iload_n F.hx F.hb d_MO_text_282 rfl (lv_at hl 1 rfl) ?_
      refine lv_aload_n F.hx F.hb d_MO_text_283 rfl (lv_at hl 0 rfl) ?_
      refine r_get (v := .ref (b + 199)) (N := 68) (T := T1) (j := 9) F hS (show 191 < 231 by decide) (show shK 191 = 5 from rfl) (show shN 191 = 68 from rfl) rfl (Nat.le_of_ble_eq_true rfl) ing1 mw_1398 (fv_sg rfl rfl rfl) d_MO_text_284 ?_
      refine r_bipush F.hx F.hb d_MO_text_287 rfl ?_
      refine lv_iload_n F.hx F.hb d_MO_text_289 rfl (lv_at hl 1 rfl) ?_
      refine r_iadd F.hx F.hb d_MO_text_290 ?_
      obtain ⟨⟨g81a, g81b⟩, hT⟩ := q_guard hT
      have z82 := hS.bool (show shK 199 = 1 from rfl) (w32 (48 + v1_))
      refine r_zald F hS (show 199 < 231 by decide) (show shK 199 = 1 from rfl) (show shN 199 = 96 from rfl) (inr_w32 _) g81a g81b d_MO_text_291 ?_
      obtain ⟨⟨g83a, g83b⟩, hT⟩ := q_guard hT
      refine r_zast F hS (show 199 < 231 by decide) (show shK 199 = 1 from rfl) (show shN 199 = 96 from rfl) hv1_ z82 g83a g83b d_MO_text_292 (fun H locs hS => ?_)
      obtain ⟨M84, eM84⟩ : ∃ q, q = (setI M80 199 v1_ (M80.1 199 (w32 (48 + v1_)))) := ⟨_, rfl⟩
      replace hS : St b C n M84 s H locs := by rw [eM84]; exact hS
      replace hT := qlet_eq hT eM84
      refine lv_iinc (v := Int32.ofInt (w32 (v1_ + 1))) (lv' := [(2, vI (w32 (v1_ + 1))), (0, .ref (b + 191))]) F.hx F.hb d_MO_text_293 hl (k := 1) rfl (q_of_add _ _) (Nat.le_of_ble_eq_true rfl) rfl (fun ls hl => ?_)
      refine lv_goto (tgt := 257) F.hx F.hb d_MO_text_296 (by decide) ?_
      exact ih M84 (w32 (v1_ + 1)) (inr_w32 _) _ _ _ hS (lv_sub hl [1, 0] rfl) hT
set_option maxHeartbeats 4000000 in
set_option maxRecDepth 100000 in
theorem k_MO_text_L195 (l : Launch) {p : Program} {e : Env} {s : State} {m : MethodId} {below : List Frame} {meth : Method} {c : Code} {b n : Nat} {C : CT} (hlo : 231 ≤ n) (x1 : Int) (hx1 : InR x1) (F : Cx b p m c b_MO_text 3 s ([.ref (b + 191), vI x1] : List Value).toArray "WardFallsModel" C n 231) (hlk : meth.locks = false) (hr : meth.sig.returnType = some .int) {res : Mem × Int} (M : Mem)  (H : Heap) (locs : List Loc) (ls : Array Slot) (hS : St b C n M s H locs) (hl : lv_has ls 3 [(0, .ref (b + 191))]) (hT : t_MO_text_L195 x1 M = some res) : W p l e (headSpec (wsM y_MO_text b_MO_text 3 (some .int)) (rmD 243)).room s m ([.ref (b + 191), vI x1] : List Value).toArray below meth c H locs 0 0 (MQ below (QI b C n res.1 res.2) ([.ref (b + 191), vI x1] : List Value).toArray s 0 0 (frb b)) (F0 m 195 ls []) := by
  unfold t_MO_text_L195 at hT
  refine lv_aload_n F.hx F.hb d_MO_text_195 rfl (lv_at hl 0 rfl) ?_
  refine lv_aload_n F.hx F.hb d_MO_text_196 rfl (lv_at hl 0 rfl) ?_
  refine r_get (v := vI (M.1 191 24)) (N := 68) (T := T1) (j := 24) F hS (show 191 < 231 by decide) (show shK 191 = 5 from rfl) (show shN 191 = 68 from rfl) rfl (Nat.le_of_ble_eq_true rfl) ing1 mw_1413 (fv_int rfl) d_MO_text_197 ?_
  have i39 := hS.rng 191 24
  refine r_putI (N := 68) (T := T1) (j := 26) F hS (show 191 < 231 by decide) (show shK 191 = 5 from rfl) (show shN 191 = 68 from rfl) rfl (Nat.le_of_ble_eq_true rfl) ing1 tyok1 nm1 rfl rfl rfl rfl rfl rfl mw_1415 i39 d_MO_text_200 (fun H locs hS => ?_)
  obtain ⟨M40, eM40⟩ : ∃ q, q = (setI M 191 26 (M.1 191 24)) := ⟨_, rfl⟩
  replace hS : St b C n M40 s H locs := by rw [eM40]; exact hS
  replace hT := qlet_eq hT eM40
  refine lv_aload_n F.hx F.hb d_MO_text_203 rfl (lv_at hl 0 rfl) ?_
  refine lv_aload_n F.hx F.hb d_MO_text_204 rfl (lv_at hl 0 rfl) ?_
  refine r_get (v := vI (M40.1 191 25)) (N := 68) (T := T1) (j := 25) F hS (show 191 < 231 by decide) (show shK 191 = 5 from rfl) (show shN 191 = 68 from rfl) rfl (Nat.le_of_ble_eq_true rfl) ing1 mw_1414 (fv_int rfl) d_MO_text_205 ?_
  have i41 := hS.rng 191 25
  refine r_putI (N := 68) (T := T1) (j := 27) F hS (show 191 < 231 by decide) (show shK 191 = 5 from rfl) (show shN 191 = 68 from rfl) rfl (Nat.le_of_ble_eq_true rfl) ing1 tyok1 nm1 rfl rfl rfl rfl rfl rfl mw_1416 i41 d_MO_text_208 (fun H locs hS => ?_)
  obtain ⟨M42, eM42⟩ : ∃ q, q = (setI M40 191 27 (M40.1 191 25)) := ⟨_, rfl⟩
  replace hS : St b C n M42 s H locs := by rw [eM42]; exact hS
  replace hT := qlet_eq hT eM42
  refine lv_aload_n F.hx F.hb d_MO_text_211 rfl (lv_at hl 0 rfl) ?_
  refine r_get (v := vI (M42.1 191 24)) (N := 68) (T := T1) (j := 24) F hS (show 191 < 231 by decide) (show shK 191 = 5 from rfl) (show shN 191 = 68 from rfl) rfl (Nat.le_of_ble_eq_true rfl) ing1 mw_1413 (fv_int rfl) d_MO_text_212 ?_
  have i43 := hS.rng 191 24
  refine r_if_eq (tgt := 220) F.hx F.hb i43 d_MO_text_215 (by decide) (fun c44 => ?_) (fun c44 => ?_)
  · replace hT := (if_pos c44).symm.trans hT
    refine lv_aload_n F.hx F.hb d_MO_text_220 rfl (lv_at hl 0 rfl) ?_
    refine r_get (v := .ref (b + 193)) (N := 68) (T := T1) (j := 3) F hS (show 191 < 231 by decide) (show shK 191 = 5 from rfl) (show shN 191 = 68 from rfl) rfl (Nat.le_of_ble_eq_true rfl) ing1 mw_1392 (fv_sg rfl rfl rfl) d_MO_text_221 ?_
    obtain ⟨q45, hq45, hT⟩ := q_obind hT
    refine r_backV F hS (r_runS (As := [.ref (b + 193)]) F hS (c_MO_half l F.2.2.1 M42 193 18 (show arrP 0 193 18 231 from ⟨rfl, rfl, by decide⟩) _ hq45) gs_MO_315 hd_MO_half ⟨Nat.le_of_ble_eq_true rfl, Nat.le_of_ble_eq_true rfl⟩ rfl hl.1 (Nat.le_of_ble_eq_true rfl) ⟨Nat.zero_le _, Nat.zero_le _⟩ rfl d_MO_text_224) (fun H locs hS => ?_)
    refine lv_aload_n F.hx F.hb d_MO_text_227 rfl (lv_at hl 0 rfl) ?_
    refine r_get (v := .ref (b + 194)) (N := 68) (T := T1) (j := 4) F hS (show 191 < 231 by decide) (show shK 191 = 5 from rfl) (show shN 191 = 68 from rfl) rfl (Nat.le_of_ble_eq_true rfl) ing1 mw_1393 (fv_sg rfl rfl rfl) d_MO_text_228 ?_
    obtain ⟨q47, hq47, hT⟩ := q_obind hT
    refine r_backV F hS (r_runS (As := [.ref (b + 194)]) F hS (c_MO_half l F.2.2.1 q45 194 8 (show arrP 0 194 8 231 from ⟨rfl, rfl, by decide⟩) _ hq47) gs_MO_315 hd_MO_half ⟨Nat.le_of_ble_eq_true rfl, Nat.le_of_ble_eq_true rfl⟩ rfl hl.1 (Nat.le_of_ble_eq_true rfl) ⟨Nat.zero_le _, Nat.zero_le _⟩ rfl d_MO_text_231) (fun H locs hS => ?_)
    refine lv_aload_n F.hx F.hb d_MO_text_234 rfl (lv_at hl 0 rfl) ?_
    refine r_get (v := .ref (b + 195)) (N := 68) (T := T1) (j := 5) F hS (show 191 < 231 by decide) (show shK 191 = 5 from rfl) (show shN 191 = 68 from rfl) rfl (Nat.le_of_ble_eq_true rfl) ing1 mw_1394 (fv_sg rfl rfl rfl) d_MO_text_235 ?_
    obtain ⟨q49, hq49, hT⟩ := q_obind hT
    refine r_backV F hS (r_runS (As := [.ref (b + 195)]) F hS (c_MO_half l F.2.2.1 q47 195 8 (show arrP 0 195 8 231 from ⟨rfl, rfl, by decide⟩) _ hq49) gs_MO_315 hd_MO_half ⟨Nat.le_of_ble_eq_true rfl, Nat.le_of_ble_eq_true rfl⟩ rfl hl.1 (Nat.le_of_ble_eq_true rfl) ⟨Nat.zero_le _, Nat.zero_le _⟩ rfl d_MO_text_238) (fun H locs hS => ?_)
    refine lv_aload_n F.hx F.hb d_MO_text_241 rfl (lv_at hl 0 rfl) ?_
    refine r_get (v := .ref (b + 196)) (N := 68) (T := T1) (j := 6) F hS (show 191 < 231 by decide) (show shK 191 = 5 from rfl) (show shN 191 = 68 from rfl) rfl (Nat.le_of_ble_eq_true rfl) ing1 mw_1395 (fv_sg rfl rfl rfl) d_MO_text_242 ?_
    obtain ⟨q51, hq51, hT⟩ := q_obind hT
    refine r_backV F hS (r_runS (As := [.ref (b + 196)]) F hS (c_MO_half l F.2.2.1 q49 196 8 (show arrP 0 196 8 231 from ⟨rfl, rfl, by decide⟩) _ hq51) gs_MO_315 hd_MO_half ⟨Nat.le_of_ble_eq_true rfl, Nat.le_of_ble_eq_true rfl⟩ rfl hl.1 (Nat.le_of_ble_eq_true rfl) ⟨Nat.zero_le _, Nat.zero_le _⟩ rfl d_MO_text_245) (fun H locs hS => ?_)
    refine lv_aload_n F.hx F.hb d_MO_text_248 rfl (lv_at hl 0 rfl) ?_
    refine r_get (v := .ref (b + 197)) (N := 68) (T := T1) (j := 7) F hS (show 191 < 231 by decide) (show shK 191 = 5 from rfl) (show shN 191 = 68 from rfl) rfl (Nat.le_of_ble_eq_true rfl) ing1 mw_1396 (fv_sg rfl rfl rfl) d_MO_text_249 ?_
    obtain ⟨q53, hq53, hT⟩ := q_obind hT
    refine r_backV F hS (r_runS (As := [.ref (b + 197)]) F hS (c_MO_half l F.2.2.1 q51 197 96 (show arrP 0 197 96 231 from ⟨rfl, rfl, by decide⟩) _ hq53) gs_MO_315 hd_MO_half ⟨Nat.le_of_ble_eq_true rfl, Nat.le_of_ble_eq_true rfl⟩ rfl hl.1 (Nat.le_of_ble_eq_true rfl) ⟨Nat.zero_le _, Nat.zero_le _⟩ rfl d_MO_text_252) (fun H locs hS => ?_)
    refine r_iconst F.hx F.hb d_MO_text_255 ?_
    refine lv_istore_n (lv' := [(2, vI 0), (0, .ref (b + 191))]) F.hx F.hb d_MO_text_256 rfl hl (Nat.le_of_ble_eq_true rfl) rfl (fun ls hl => ?_)
    exact k_MO_text_L257 l hlo x1 hx1 F hlk hr FU q53 0 (inr_c rfl) _ _ _ hS (lv_sub hl [1, 0] rfl) hT
  · replace hT := (if_neg c44).symm.trans hT
    refine r_iconst F.hx F.hb d_MO_text_218 ?_
    cases hT
    exact r_iret F hlk hr rfl hS (inr_c rfl) d_MO_text_219
set_option maxHeartbeats 4000000 in
set_option maxRecDepth 100000 in
theorem k_MO_text_L173 (l : Launch) {p : Program} {e : Env} {s : State} {m : MethodId} {below : List Frame} {meth : Method} {c : Code} {b n : Nat} {C : CT} (hlo : 231 ≤ n) (x1 : Int) (hx1 : InR x1) (F : Cx b p m c b_MO_text 3 s ([.ref (b + 191), vI x1] : List Value).toArray "WardFallsModel" C n 231) (hlk : meth.locks = false) (hr : meth.sig.returnType = some .int) {res : Mem × Int} : ∀ (fu : Nat) (M : Mem)  (H : Heap) (locs : List Loc) (ls : Array Slot), St b C n M s H locs → lv_has ls 3 [(0, .ref (b + 191))] → t_MO_text_L173 x1 fu M = some res → W p l e (headSpec (wsM y_MO_text b_MO_text 3 (some .int)) (rmD 243)).room s m ([.ref (b + 191), vI x1] : List Value).toArray below meth c H locs 0 0 (MQ below (QI b C n res.1 res.2) ([.ref (b + 191), vI x1] : List Value).toArray s 0 0 (frb b)) (F0 m 173 ls []) := by
  intro fu
  induction fu with
  | zero => intro M  H locs ls hS hl hT; exact absurd hT (by simp [t_MO_text_L173])
  | succ fu ih =>
    intro M  H locs ls hS hl hT
    rw [t_MO_text_L173] at hT
    refine lv_aload_n F.hx F.hb d_MO_text_173 rfl (lv_at hl 0 rfl) ?_
    refine r_get (v := vI (M.1 191 24)) (N := 68) (T := T1) (j := 24) F hS (show 191 < 231 by decide) (show shK 191 = 5 from rfl) (show shN 191 = 68 from rfl) rfl (Nat.le_of_ble_eq_true rfl) ing1 mw_1413 (fv_int rfl) d_MO_text_174 ?_
    have i33 := hS.rng 191 24
    refine r_if_ne (tgt := 195) F.hx F.hb i33 d_MO_text_177 (by decide) (fun c34 => ?_) (fun c34 => ?_)
    · replace hT := (if_neg c34).symm.trans hT
      exact k_MO_text_L195 l hlo x1 hx1 F hlk hr M _ _ _ hS (lv_sub hl [0] rfl) hT
    · replace hT := (if_pos c34).symm.trans hT
      refine lv_aload_n F.hx F.hb d_MO_text_180 rfl (lv_at hl 0 rfl) ?_
      refine r_get (v := vI (M.1 191 22)) (N := 68) (T := T1) (j := 22) F hS (show 191 < 231 by decide) (show shK 191 = 5 from rfl) (show shN 191 = 68 from rfl) rfl (Nat.le_of_ble_eq_true rfl) ing1 mw_1411 (fv_int rfl) d_MO_text_181 ?_
      have i35 := hS.rng 191 22
      refine r_iconst F.hx F.hb d_MO_text_184 ?_
      refine r_icmp_eq (tgt := 195) F.hx F.hb i35 (inr_c rfl) d_MO_text_185 (by decide) (fun c36 => ?_) (fun c36 => ?_)
      · replace hT := (if_pos c36).symm.trans hT
        exact k_MO_text_L195 l hlo x1 hx1 F hlk hr M _ _ _ hS (lv_sub hl [0] rfl) hT
      · replace hT := (if_neg c36).symm.trans hT
        refine lv_aload_n F.hx F.hb d_MO_text_188 rfl (lv_at hl 0 rfl) ?_
        obtain ⟨q37, hq37, hT⟩ := q_obind hT
        refine r_backV F hS (r_runV (k := 191) (N := 68) (T := T1) (As := []) F hS (show 191 < 231 by decide) (show shK 191 = 5 from rfl) rfl (c_MO_line l F.2.2.1 M _ hq37) gs_MO_309 hd_MO_line ⟨Nat.le_of_ble_eq_true rfl, Nat.le_of_ble_eq_true rfl⟩ rfl hl.1 (Nat.le_of_ble_eq_true rfl) ⟨Nat.zero_le _, Nat.zero_le _⟩ rfl d_MO_text_189) (fun H locs hS => ?_)
        refine lv_goto (tgt := 173) F.hx F.hb d_MO_text_192 (by decide) ?_
        exact ih q37 _ _ _ hS (lv_sub hl [0] rfl) hT
set_option maxHeartbeats 4000000 in
set_option maxRecDepth 100000 in
theorem k_MO_text_L124 (l : Launch) {p : Program} {e : Env} {s : State} {m : MethodId} {below : List Frame} {meth : Method} {c : Code} {b n : Nat} {C : CT} (hlo : 231 ≤ n) (x1 : Int) (hx1 : InR x1) (F : Cx b p m c b_MO_text 3 s ([.ref (b + 191), vI x1] : List Value).toArray "WardFallsModel" C n 231) (hlk : meth.locks = false) (hr : meth.sig.returnType = some .int) {res : Mem × Int} : ∀ (fu : Nat) (M : Mem) (v1_ : Int) (hv1_ : InR v1_) (H : Heap) (locs : List Loc) (ls : Array Slot), St b C n M s H locs → lv_has ls 3 [(0, .ref (b + 191)), (2, vI v1_)] → t_MO_text_L124 x1 fu M v1_ = some res → W p l e (headSpec (wsM y_MO_text b_MO_text 3 (some .int)) (rmD 243)).room s m ([.ref (b + 191), vI x1] : List Value).toArray below meth c H locs 0 0 (MQ below (QI b C n res.1 res.2) ([.ref (b + 191), vI x1] : List Value).toArray s 0 0 (frb b)) (F0 m 124 ls []) := by
  intro fu
  induction fu with
  | zero => intro M v1_ hv1_ H locs ls hS hl hT; exact absurd hT (by simp [t_MO_text_L124])
  | succ fu ih =>
    intro M v1_ hv1_ H locs ls hS hl hT
    rw [t_MO_text_L124] at hT
    refine lv_iload_n F.hx F.hb d_MO_text_124 rfl (lv_at hl 1 rfl) ?_
    refine r_iconst F.hx F.hb d_MO_text_125 ?_
    refine r_icmp_ge (tgt := 149) F.hx F.hb hv1_ (inr_c rfl) d_MO_text_126 (by decide) (fun c22 => ?_) (fun c22 => ?_)
    · replace hT := (if_pos c22).symm.trans hT
      refine lv_aload_n F.hx F.hb d_MO_text_149 rfl (lv_at hl 0 rfl) ?_
      refine r_iconst F.hx F.hb d_MO_text_150 ?_
      refine r_putI (N := 68) (T := T1) (j := 17) F hS (show 191 < 231 by decide) (show shK 191 = 5 from rfl) (show shN 191 = 68 from rfl) rfl (Nat.le_of_ble_eq_true rfl) ing1 tyok1 nm1 rfl rfl rfl rfl rfl rfl mw_1406 (inr_c rfl) d_MO_text_151 (fun H locs hS => ?_)
      obtain ⟨M23, eM23⟩ : ∃ q, q = (setI M 191 17 0) := ⟨_, rfl⟩
      replace hS : St b C n M23 s H locs := by rw [eM23]; exact hS
      replace hT := qlet_eq hT eM23
      refine lv_aload_n F.hx F.hb d_MO_text_154 rfl (lv_at hl 0 rfl) ?_
      refine r_iconst F.hx F.hb d_MO_text_155 ?_
      refine r_putI (N := 68) (T := T1) (j := 18) F hS (show 191 < 231 by decide) (show shK 191 = 5 from rfl) (show shN 191 = 68 from rfl) rfl (Nat.le_of_ble_eq_true rfl) ing1 tyok1 nm1 rfl rfl rfl rfl rfl rfl mw_1407 (inr_c rfl) d_MO_text_156 (fun H locs hS => ?_)
      obtain ⟨M24, eM24⟩ : ∃ q, q = (setI M23 191 18 0) := ⟨_, rfl⟩
      replace hS : St b C n M24 s H locs := by rw [eM24]; exact hS
      replace hT := qlet_eq hT eM24
      refine lv_aload_n F.hx F.hb d_MO_text_159 rfl (lv_at hl 0 rfl) ?_
      refine r_iconst F.hx F.hb d_MO_text_160 ?_
      refine r_putI (N := 68) (T := T1) (j := 28) F hS (show 191 < 231 by decide) (show shK 191 = 5 from rfl) (show shN 191 = 68 from rfl) rfl (Nat.le_of_ble_eq_true rfl) ing1 tyok1 nm1 rfl rfl rfl rfl rfl rfl mw_1417 (inr_c rfl) d_MO_text_161 (fun H locs hS => ?_)
      obtain ⟨M25, eM25⟩ : ∃ q, q = (setI M24 191 28 0) := ⟨_, rfl⟩
      replace hS : St b C n M25 s H locs := by rw [eM25]; exact hS
      replace hT := qlet_eq hT eM25
      refine lv_aload_n F.hx F.hb d_MO_text_164 rfl (lv_at hl 0 rfl) ?_
      refine r_iconst F.hx F.hb d_MO_text_165 ?_
      refine r_putI (N := 68) (T := T1) (j := 29) F hS (show 191 < 231 by decide) (show shK 191 = 5 from rfl) (show shN 191 = 68 from rfl) rfl (Nat.le_of_ble_eq_true rfl) ing1 tyok1 nm1 rfl rfl rfl rfl rfl rfl mw_1418 (inr_c rfl) d_MO_text_166 (fun H locs hS => ?_)
      obtain ⟨M26, eM26⟩ : ∃ q, q = (setI M25 191 29 0) := ⟨_, rfl⟩
      replace hS : St b C n M26 s H locs := by rw [eM26]; exact hS
      replace hT := qlet_eq hT eM26
      refine lv_aload_n F.hx F.hb d_MO_text_169 rfl (lv_at hl 0 rfl) ?_
      obtain ⟨q27, hq27, hT⟩ := q_obind hT
      refine r_backV F hS (r_runV (k := 191) (N := 68) (T := T1) (As := []) F hS (show 191 < 231 by decide) (show shK 191 = 5 from rfl) rfl (c_MO_token l F.2.2.1 M26 _ hq27) gs_MO_205 hd_MO_token ⟨Nat.le_of_ble_eq_true rfl, Nat.le_of_ble_eq_true rfl⟩ rfl hl.1 (Nat.le_of_ble_eq_true rfl) ⟨Nat.zero_le _, Nat.zero_le _⟩ rfl d_MO_text_170) (fun H locs hS => ?_)
      exact k_MO_text_L173 l hlo x1 hx1 F hlk hr FU q27 _ _ _ hS (lv_sub hl [0] rfl) hT
    · replace hT := (if_neg c22).symm.trans hT
      refine lv_aload_n F.hx F.hb d_MO_text_129 rfl (lv_at hl 0 rfl) ?_
      refine r_get (v := .ref (b + 203)) (N := 68) (T := T1) (j := 13) F hS (show 191 < 231 by decide) (show shK 191 = 5 from rfl) (show shN 191 = 68 from rfl) rfl (Nat.le_of_ble_eq_true rfl) ing1 mw_1402 (fv_sg rfl rfl rfl) d_MO_text_130 ?_
      refine lv_iload_n F.hx F.hb d_MO_text_133 rfl (lv_at hl 1 rfl) ?_
      refine r_iconst F.hx F.hb d_MO_text_134 ?_
      obtain ⟨⟨g29a, g29b⟩, hT⟩ := q_guard hT
      refine r_iast F hS (show 203 < 231 by decide) (show shK 203 = 0 from rfl) (show shN 203 = 4 from rfl) hv1_ (inr_c rfl) g29a g29b d_MO_text_135 (fun H locs hS => ?_)
      obtain ⟨M30, eM30⟩ : ∃ q, q = (setI M 203 v1_ 0) := ⟨_, rfl⟩
      replace hS : St b C n M30 s H locs := by rw [eM30]; exact hS
      replace hT := qlet_eq hT eM30
      refine lv_aload_n F.hx F.hb d_MO_text_136 rfl (lv_at hl 0 rfl) ?_
      refine r_get (v := .ref (b + 204)) (N := 68) (T := T1) (j := 14) F hS (show 191 < 231 by decide) (show shK 191 = 5 from rfl) (show shN 191 = 68 from rfl) rfl (Nat.le_of_ble_eq_true rfl) ing1 mw_1403 (fv_sg rfl rfl rfl) d_MO_text_137 ?_
      refine lv_iload_n F.hx F.hb d_MO_text_140 rfl (lv_at hl 1 rfl) ?_
      refine r_iconst F.hx F.hb d_MO_text_141 ?_
      obtain ⟨⟨g31a, g31b⟩, hT⟩ := q_guard hT
      refine r_iast F hS (show 204 < 231 by decide) (show shK 204 = 0 from rfl) (show shN 204 = 4 from rfl) hv1_ (inr_c rfl) g31a g31b d_MO_text_142 (fun H locs hS => ?_)
      obtain ⟨M32, eM32⟩ : ∃ q, q = (setI M30 204 v1_ 0) := ⟨_, rfl⟩
      replace hS : St b C n M32 s H locs := by rw [eM32]; exact hS
      replace hT := qlet_eq hT eM32
      refine lv_iinc (v := Int32.ofInt (w32 (v1_ + 1))) (lv' := [(2, vI (w32 (v1_ + 1))), (0, .ref (b + 191))]) F.hx F.hb d_MO_text_143 hl (k := 1) rfl (q_of_add _ _) (Nat.le_of_ble_eq_true rfl) rfl (fun ls hl => ?_)
      refine lv_goto (tgt := 124) F.hx F.hb d_MO_text_146 (by decide) ?_
      exact ih M32 (w32 (v1_ + 1)) (inr_w32 _) _ _ _ hS (lv_sub hl [1, 0] rfl) hT
set_option maxHeartbeats 4000000 in
set_option maxRecDepth 100000 in
theorem k_MO_text_L80 (l : Launch) {p : Program} {e : Env} {s : State} {m : MethodId} {below : List Frame} {meth : Method} {c : Code} {b n : Nat} {C : CT} (hlo : 231 ≤ n) (x1 : Int) (hx1 : InR x1) (F : Cx b p m c b_MO_text 3 s ([.ref (b + 191), vI x1] : List Value).toArray "WardFallsModel" C n 231) (hlk : meth.locks = false) (hr : meth.sig.returnType = some .int) {res : Mem × Int} : ∀ (fu : Nat) (M : Mem) (v1_ : Int) (hv1_ : InR v1_) (H : Heap) (locs : List Loc) (ls : Array Slot), St b C n M s H locs → lv_has ls 3 [(0, .ref (b + 191)), (2, vI v1_)] → t_MO_text_L80 x1 fu M v1_ = some res → W p l e (headSpec (wsM y_MO_text b_MO_text 3 (some .int)) (rmD 243)).room s m ([.ref (b + 191), vI x1] : List Value).toArray below meth c H locs 0 0 (MQ below (QI b C n res.1 res.2) ([.ref (b + 191), vI x1] : List Value).toArray s 0 0 (frb b)) (F0 m 80 ls []) := by
  intro fu
  induction fu with
  | zero => intro M v1_ hv1_ H locs ls hS hl hT; exact absurd hT (by simp [t_MO_text_L80])
  | succ fu ih =>
    intro M v1_ hv1_ H locs ls hS hl hT
    rw [t_MO_text_L80] at hT
    refine lv_iload_n F.hx F.hb d_MO_text_80 rfl (lv_at hl 1 rfl) ?_
    refine r_bipush F.hx F.hb d_MO_text_81 rfl ?_
    refine r_icmp_ge (tgt := 122) F.hx F.hb hv1_ (inr_c rfl) d_MO_text_83 (by decide) (fun c13 => ?_) (fun c13 => ?_)
    · replace hT := (if_pos c13).symm.trans hT
      refine r_iconst F.hx F.hb d_MO_text_122 ?_
      refine lv_istore_n (lv' := [(2, vI 2), (0, .ref (b + 191))]) F.hx F.hb d_MO_text_123 rfl hl (Nat.le_of_ble_eq_true rfl) rfl (fun ls hl => ?_)
      exact k_MO_text_L124 l hlo x1 hx1 F hlk hr FU M 2 (inr_c rfl) _ _ _ hS (lv_sub hl [1, 0] rfl) hT
    · replace hT := (if_neg c13).symm.trans hT
      refine lv_aload_n F.hx F.hb d_MO_text_86 rfl (lv_at hl 0 rfl) ?_
      refine r_get (v := .ref (b + 197)) (N := 68) (T := T1) (j := 7) F hS (show 191 < 231 by decide) (show shK 191 = 5 from rfl) (show shN 191 = 68 from rfl) rfl (Nat.le_of_ble_eq_true rfl) ing1 mw_1396 (fv_sg rfl rfl rfl) d_MO_text_87 ?_
      refine r_bipush F.hx F.hb d_MO_text_90 rfl ?_
      refine lv_iload_n F.hx F.hb d_MO_text_92 rfl (lv_at hl 1 rfl) ?_
      refine r_iadd F.hx F.hb d_MO_text_93 ?_
      refine r_iconst F.hx F.hb d_MO_text_94 ?_
      obtain ⟨⟨g14a, g14b⟩, hT⟩ := q_guard hT
      refine r_iast F hS (show 197 < 231 by decide) (show shK 197 = 0 from rfl) (show shN 197 = 96 from rfl) (inr_w32 _) (inr_c rfl) g14a g14b d_MO_text_95 (fun H locs hS => ?_)
      obtain ⟨M15, eM15⟩ : ∃ q, q = (setI M 197 (w32 (48 + v1_)) 0) := ⟨_, rfl⟩
      replace hS : St b C n M15 s H locs := by rw [eM15]; exact hS
      replace hT := qlet_eq hT eM15
      refine lv_aload_n F.hx F.hb d_MO_text_96 rfl (lv_at hl 0 rfl) ?_
      refine r_get (v := .ref (b + 198)) (N := 68) (T := T1) (j := 8) F hS (show 191 < 231 by decide) (show shK 191 = 5 from rfl) (show shN 191 = 68 from rfl) rfl (Nat.le_of_ble_eq_true rfl) ing1 mw_1397 (fv_sg rfl rfl rfl) d_MO_text_97 ?_
      refine r_bipush F.hx F.hb d_MO_text_100 rfl ?_
      refine lv_iload_n F.hx F.hb d_MO_text_102 rfl (lv_at hl 1 rfl) ?_
      refine r_iadd F.hx F.hb d_MO_text_103 ?_
      refine r_iconst F.hx F.hb d_MO_text_104 ?_
      obtain ⟨⟨g16a, g16b⟩, hT⟩ := q_guard hT
      refine r_zast F hS (show 198 < 231 by decide) (show shK 198 = 1 from rfl) (show shN 198 = 96 from rfl) (inr_w32 _) (Or.inl rfl) g16a g16b d_MO_text_105 (fun H locs hS => ?_)
      obtain ⟨M17, eM17⟩ : ∃ q, q = (setI M15 198 (w32 (48 + v1_)) 0) := ⟨_, rfl⟩
      replace hS : St b C n M17 s H locs := by rw [eM17]; exact hS
      replace hT := qlet_eq hT eM17
      refine lv_aload_n F.hx F.hb d_MO_text_106 rfl (lv_at hl 0 rfl) ?_
      refine r_get (v := .ref (b + 199)) (N := 68) (T := T1) (j := 9) F hS (show 191 < 231 by decide) (show shK 191 = 5 from rfl) (show shN 191 = 68 from rfl) rfl (Nat.le_of_ble_eq_true rfl) ing1 mw_1398 (fv_sg rfl rfl rfl) d_MO_text_107 ?_
      refine r_bipush F.hx F.hb d_MO_text_110 rfl ?_
      refine lv_iload_n F.hx F.hb d_MO_text_112 rfl (lv_at hl 1 rfl) ?_
      refine r_iadd F.hx F.hb d_MO_text_113 ?_
      refine r_iconst F.hx F.hb d_MO_text_114 ?_
      obtain ⟨⟨g18a, g18b⟩, hT⟩ := q_guard hT
      refine r_zast F hS (show 199 < 231 by decide) (show shK 199 = 1 from rfl) (show shN 199 = 96 from rfl) (inr_w32 _) (Or.inl rfl) g18a g18b d_MO_text_115 (fun H locs hS => ?_)
      obtain ⟨M19, eM19⟩ : ∃ q, q = (setI M17 199 (w32 (48 + v1_)) 0) := ⟨_, rfl⟩
      replace hS : St b C n M19 s H locs := by rw [eM19]; exact hS
      replace hT := qlet_eq hT eM19
      refine lv_iinc (v := Int32.ofInt (w32 (v1_ + 1))) (lv' := [(2, vI (w32 (v1_ + 1))), (0, .ref (b + 191))]) F.hx F.hb d_MO_text_116 hl (k := 1) rfl (q_of_add _ _) (Nat.le_of_ble_eq_true rfl) rfl (fun ls hl => ?_)
      refine lv_goto (tgt := 80) F.hx F.hb d_MO_text_119 (by decide) ?_
      exact ih M19 (w32 (v1_ + 1)) (inr_w32 _) _ _ _ hS (lv_sub hl [1, 0] rfl) hT
set_option maxHeartbeats 4000000 in
set_option maxRecDepth 100000 in
theorem k_MO_text_L47 (l : Launch) {p : Program} {e : Env} {s : State} {m : MethodId} {below : List Frame} {meth : Method} {c : Code} {b n : Nat} {C : CT} (hlo : 231 ≤ n) (x1 : Int) (hx1 : InR x1) (F : Cx b p m c b_MO_text 3 s ([.ref (b + 191), vI x1] : List Value).toArray "WardFallsModel" C n 231) (hlk : meth.locks = false) (hr : meth.sig.returnType = some .int) {res : Mem × Int} : ∀ (fu : Nat) (M : Mem) (v1_ : Int) (hv1_ : InR v1_) (H : Heap) (locs : List Loc) (ls : Array Slot), St b C n M s H locs → lv_has ls 3 [(0, .ref (b + 191)), (2, vI v1_)] → t_MO_text_L47 x1 fu M v1_ = some res → W p l e (headSpec (wsM y_MO_text b_MO_text 3 (some .int)) (rmD 243)).room s m ([.ref (b + 191), vI x1] : List Value).toArray below meth c H locs 0 0 (MQ below (QI b C n res.1 res.2) ([.ref (b + 191), vI x1] : List Value).toArray s 0 0 (frb b)) (F0 m 47 ls []) := by
  intro fu
  induction fu with
  | zero => intro M v1_ hv1_ H locs ls hS hl hT; exact absurd hT (by simp [t_MO_text_L47])
  | succ fu ih =>
    intro M v1_ hv1_ H locs ls hS hl hT
    rw [t_MO_text_L47] at hT
    refine lv_iload_n F.hx F.hb d_MO_text_47 rfl (lv_at hl 1 rfl) ?_
    refine r_bipush F.hx F.hb d_MO_text_48 rfl ?_
    refine r_icmp_ge (tgt := 78) F.hx F.hb hv1_ (inr_c rfl) d_MO_text_50 (by decide) (fun c10 => ?_) (fun c10 => ?_)
    · replace hT := (if_pos c10).symm.trans hT
      refine r_iconst F.hx F.hb d_MO_text_78 ?_
      refine lv_istore_n (lv' := [(2, vI 0), (0, .ref (b + 191))]) F.hx F.hb d_MO_text_79 rfl hl (Nat.le_of_ble_eq_true rfl) rfl (fun ls hl => ?_)
      exact k_MO_text_L80 l hlo x1 hx1 F hlk hr FU M 0 (inr_c rfl) _ _ _ hS (lv_sub hl [1, 0] rfl) hT
    · replace hT := (if_neg c10).symm.trans hT
      refine lv_aload_n F.hx F.hb d_MO_text_53 rfl (lv_at hl 0 rfl) ?_
      refine lv_iload_n F.hx F.hb d_MO_text_54 rfl (lv_at hl 1 rfl) ?_
      refine lv_iload_n F.hx F.hb d_MO_text_55 rfl (lv_at hl 1 rfl) ?_
      refine r_if_eq (tgt := 64) F.hx F.hb hv1_ d_MO_text_56 (by decide) (fun c11 => ?_) (fun c11 => ?_)
      · replace hT := (if_pos c11).symm.trans hT
        exact k_MO_text_L64 l hlo x1 hx1 F hlk hr (fun a0_ a1_ => t_MO_text_L47 x1 fu a0_ a1_) ih M v1_ hv1_ v1_ hv1_ _ _ _ hS (lv_sub hl [0, 1] rfl) hT
      · replace hT := (if_neg c11).symm.trans hT
        refine lv_iload_n F.hx F.hb d_MO_text_59 rfl (lv_at hl 1 rfl) ?_
        refine r_iconst F.hx F.hb d_MO_text_60 ?_
        refine r_icmp_ne (tgt := 68) F.hx F.hb hv1_ (inr_c rfl) d_MO_text_61 (by decide) (fun c12 => ?_) (fun c12 => ?_)
        · replace hT := (if_neg c12).symm.trans hT
          refine r_iconst F.hx F.hb d_MO_text_68 ?_
          exact k_MO_text_L69 l hlo x1 hx1 F hlk hr (fun a0_ a1_ => t_MO_text_L47 x1 fu a0_ a1_) ih M v1_ hv1_ v1_ hv1_ 0 (inr_c rfl) _ _ _ hS (lv_sub hl [0, 1] rfl) hT
        · replace hT := (if_pos c12).symm.trans hT
          exact k_MO_text_L64 l hlo x1 hx1 F hlk hr (fun a0_ a1_ => t_MO_text_L47 x1 fu a0_ a1_) ih M v1_ hv1_ v1_ hv1_ _ _ _ hS (lv_sub hl [0, 1] rfl) hT
set_option maxHeartbeats 4000000 in
set_option maxRecDepth 100000 in
theorem c_MO_text (l : Launch) {b n : Nat} {C : CT} (hlo : 231 ≤ n) (M : Mem) (x1 : Int) (hx1 : InR x1) (res : Mem × Int) (hT : t_MO_text M x1 = some res) : CM l b C n 243 y_MO_text b_MO_text 3 (some .int) [.ref (b + 191), vI x1] M (QI b C n res.1 res.2) := by
  refine CM.of (lo := 231) (ow := "WardFallsModel") (by decide) rfl (Nat.le_of_ble_eq_true rfl) hlo (fun p e s m below meth c F hlk hr hS ls hl => ?_)
  have hl : lv_has ls 3 [(0, .ref (b + 191)), (1, vI x1)] := hl
  unfold t_MO_text at hT
  refine lv_aload_n F.hx F.hb d_MO_text_0 rfl (lv_at hl 0 rfl) ?_
  refine r_iconst F.hx F.hb d_MO_text_1 ?_
  refine r_putI (N := 68) (T := T1) (j := 0) F hS (show 191 < 231 by decide) (show shK 191 = 5 from rfl) (show shN 191 = 68 from rfl) rfl (Nat.le_of_ble_eq_true rfl) ing1 tyok1 nm1 rfl rfl rfl rfl rfl rfl mw_1389 (inr_c rfl) d_MO_text_2 (fun H locs hS => ?_)
  obtain ⟨M1, eM1⟩ : ∃ q, q = (setI M 191 0 0) := ⟨_, rfl⟩
  replace hS : St b C n M1 s H locs := by rw [eM1]; exact hS
  replace hT := qlet_eq hT eM1
  refine lv_iload_n F.hx F.hb d_MO_text_5 rfl (lv_at hl 1 rfl) ?_
  refine r_if_lt (tgt := 17) F.hx F.hb hx1 d_MO_text_6 (by decide) (fun c2 => ?_) (fun c2 => ?_)
  · replace hT := (if_pos c2).symm.trans hT
    refine r_bipush F.hx F.hb d_MO_text_17 rfl ?_
    cases hT
    exact r_iret F hlk hr rfl hS (inr_c rfl) d_MO_text_19
  · replace hT := (if_neg c2).symm.trans hT
    refine lv_iload_n F.hx F.hb d_MO_text_9 rfl (lv_at hl 1 rfl) ?_
    refine lv_aload_n F.hx F.hb d_MO_text_10 rfl (lv_at hl 0 rfl) ?_
    refine r_get (v := vI (M1.1 191 2)) (N := 68) (T := T1) (j := 2) F hS (show 191 < 231 by decide) (show shK 191 = 5 from rfl) (show shN 191 = 68 from rfl) rfl (Nat.le_of_ble_eq_true rfl) ing1 mw_1391 (fv_int rfl) d_MO_text_11 ?_
    have i3 := hS.rng 191 2
    refine r_icmp_le (tgt := 20) F.hx F.hb hx1 i3 d_MO_text_14 (by decide) (fun c4 => ?_) (fun c4 => ?_)
    · replace hT := (if_pos c4).symm.trans hT
      refine lv_aload_n F.hx F.hb d_MO_text_20 rfl (lv_at hl 0 rfl) ?_
      refine lv_iload_n F.hx F.hb d_MO_text_21 rfl (lv_at hl 1 rfl) ?_
      refine r_putI (N := 68) (T := T1) (j := 19) F hS (show 191 < 231 by decide) (show shK 191 = 5 from rfl) (show shN 191 = 68 from rfl) rfl (Nat.le_of_ble_eq_true rfl) ing1 tyok1 nm1 rfl rfl rfl rfl rfl rfl mw_1408 hx1 d_MO_text_22 (fun H locs hS => ?_)
      obtain ⟨M5, eM5⟩ : ∃ q, q = (setI M1 191 19 x1) := ⟨_, rfl⟩
      replace hS : St b C n M5 s H locs := by rw [eM5]; exact hS
      replace hT := qlet_eq hT eM5
      refine lv_aload_n F.hx F.hb d_MO_text_25 rfl (lv_at hl 0 rfl) ?_
      refine r_iconst F.hx F.hb d_MO_text_26 ?_
      refine r_putI (N := 68) (T := T1) (j := 2) F hS (show 191 < 231 by decide) (show shK 191 = 5 from rfl) (show shN 191 = 68 from rfl) rfl (Nat.le_of_ble_eq_true rfl) ing1 tyok1 nm1 rfl rfl rfl rfl rfl rfl mw_1391 (inr_c rfl) d_MO_text_27 (fun H locs hS => ?_)
      obtain ⟨M6, eM6⟩ : ∃ q, q = (setI M5 191 2 0) := ⟨_, rfl⟩
      replace hS : St b C n M6 s H locs := by rw [eM6]; exact hS
      replace hT := qlet_eq hT eM6
      refine lv_aload_n F.hx F.hb d_MO_text_30 rfl (lv_at hl 0 rfl) ?_
      refine r_iconst F.hx F.hb d_MO_text_31 ?_
      refine r_putI (N := 68) (T := T1) (j := 20) F hS (show 191 < 231 by decide) (show shK 191 = 5 from rfl) (show shN 191 = 68 from rfl) rfl (Nat.le_of_ble_eq_true rfl) ing1 tyok1 nm1 rfl rfl rfl rfl rfl rfl mw_1409 (inr_c rfl) d_MO_text_32 (fun H locs hS => ?_)
      obtain ⟨M7, eM7⟩ : ∃ q, q = (setI M6 191 20 0) := ⟨_, rfl⟩
      replace hS : St b C n M7 s H locs := by rw [eM7]; exact hS
      replace hT := qlet_eq hT eM7
      refine lv_aload_n F.hx F.hb d_MO_text_35 rfl (lv_at hl 0 rfl) ?_
      refine r_iconst F.hx F.hb d_MO_text_36 ?_
      refine r_putI (N := 68) (T := T1) (j := 24) F hS (show 191 < 231 by decide) (show shK 191 = 5 from rfl) (show shN 191 = 68 from rfl) rfl (Nat.le_of_ble_eq_true rfl) ing1 tyok1 nm1 rfl rfl rfl rfl rfl rfl mw_1413 (inr_c rfl) d_MO_text_37 (fun H locs hS => ?_)
      obtain ⟨M8, eM8⟩ : ∃ q, q = (setI M7 191 24 0) := ⟨_, rfl⟩
      replace hS : St b C n M8 s H locs := by rw [eM8]; exact hS
      replace hT := qlet_eq hT eM8
      refine lv_aload_n F.hx F.hb d_MO_text_40 rfl (lv_at hl 0 rfl) ?_
      refine r_iconst F.hx F.hb d_MO_text_41 ?_
      refine r_putI (N := 68) (T := T1) (j := 25) F hS (show 191 < 231 by decide) (show shK 191 = 5 from rfl) (show shN 191 = 68 from rfl) rfl (Nat.le_of_ble_eq_true rfl) ing1 tyok1 nm1 rfl rfl rfl rfl rfl rfl mw_1414 (inr_c rfl) d_MO_text_42 (fun H locs hS => ?_)
      obtain ⟨M9, eM9⟩ : ∃ q, q = (setI M8 191 25 (-1)) := ⟨_, rfl⟩
      replace hS : St b C n M9 s H locs := by rw [eM9]; exact hS
      replace hT := qlet_eq hT eM9
      refine r_iconst F.hx F.hb d_MO_text_45 ?_
      refine lv_istore_n (lv' := [(2, vI 0), (0, .ref (b + 191)), (1, vI x1)]) F.hx F.hb d_MO_text_46 rfl hl (Nat.le_of_ble_eq_true rfl) rfl (fun ls hl => ?_)
      exact k_MO_text_L47 l hlo x1 hx1 F hlk hr FU M9 0 (inr_c rfl) _ _ _ hS (lv_sub hl [1, 0] rfl) hT
    · replace hT := (if_neg c4).symm.trans hT
      refine r_bipush F.hx F.hb d_MO_text_17 rfl ?_
      cases hT
      exact r_iret F hlk hr rfl hS (inr_c rfl) d_MO_text_19
theorem d_MO_fault_0 : decode b_MO_fault 0 = .ok (.aload_n 0, 1) := dc_42 (by decide +kernel)
theorem d_MO_fault_1 : decode b_MO_fault 1 = .ok (.iconst 0, 1) := dc_3 (by decide +kernel)
theorem d_MO_fault_2 : decode b_MO_fault 2 = .ok (.putfield 145, 3) := dc_181 (by decide +kernel)
theorem d_MO_fault_5 : decode b_MO_fault 5 = .ok (.iload_n 1, 1) := dc_27 (by decide +kernel)
theorem d_MO_fault_6 : decode b_MO_fault 6 = .ok (.ifCond .ne 10, 3) := dc_154 (by decide +kernel)
theorem d_MO_fault_9 : decode b_MO_fault 9 = .ok (.aload_n 0, 1) := dc_42 (by decide +kernel)
theorem d_MO_fault_10 : decode b_MO_fault 10 = .ok (.getfield 312, 3) := dc_180 (by decide +kernel)
theorem d_MO_fault_13 : decode b_MO_fault 13 = .ok (.goto 16, 3) := dc_167 (by decide +kernel)
theorem d_MO_fault_16 : decode b_MO_fault 16 = .ok (.iload_n 1, 1) := dc_27 (by decide +kernel)
theorem d_MO_fault_17 : decode b_MO_fault 17 = .ok (.iconst 1, 1) := dc_4 (by decide +kernel)
theorem d_MO_fault_18 : decode b_MO_fault 18 = .ok (.if_icmp .ne 10, 3) := dc_160 (by decide +kernel)
theorem d_MO_fault_21 : decode b_MO_fault 21 = .ok (.aload_n 0, 1) := dc_42 (by decide +kernel)
theorem d_MO_fault_22 : decode b_MO_fault 22 = .ok (.getfield 56, 3) := dc_180 (by decide +kernel)
theorem d_MO_fault_25 : decode b_MO_fault 25 = .ok (.goto 4, 3) := dc_167 (by decide +kernel)
theorem d_MO_fault_28 : decode b_MO_fault 28 = .ok (.iconst (-1), 1) := dc_2 (by decide +kernel)
theorem d_MO_fault_29 : decode b_MO_fault 29 = .ok (.ireturn, 1) := dc_172 (by decide +kernel)
def t_MO_fault (M : Mem) (x1 : Int) : Mem × Int := (qlet (setI M 191 0 0) fun M1 => (if x1 = 0 then (M1, (M1.1 191 26)) else (if x1 = 1 then (M1, (M1.1 191 27)) else (M1, (-1)))))
set_option maxHeartbeats 4000000 in
set_option maxRecDepth 100000 in
theorem c_MO_fault (l : Launch) {b n : Nat} {C : CT} (hlo : 231 ≤ n) (M : Mem) (x1 : Int) (hx1 : InR x1) (res : Mem × Int) (hT : t_MO_fault M x1 = res) : CM l b C n 0 y_MO_fault b_MO_fault 2 (some .int) [.ref (b + 191), vI x1] M (QI b C n res.1 res.2) := by
  refine CM.of (lo := 231) (ow := "WardFallsModel") (by decide) rfl (Nat.le_of_ble_eq_true rfl) hlo (fun p e s m below meth c F hlk hr hS ls hl => ?_)
  have hl : lv_has ls 2 [(0, .ref (b + 191)), (1, vI x1)] := hl
  unfold t_MO_fault at hT
  refine lv_aload_n F.hx F.hb d_MO_fault_0 rfl (lv_at hl 0 rfl) ?_
  refine r_iconst F.hx F.hb d_MO_fault_1 ?_
  refine r_putI (N := 68) (T := T1) (j := 0) F hS (show 191 < 231 by decide) (show shK 191 = 5 from rfl) (show shN 191 = 68 from rfl) rfl (Nat.le_of_ble_eq_true rfl) ing1 tyok1 nm1 rfl rfl rfl rfl rfl rfl mw_1389 (inr_c rfl) d_MO_fault_2 (fun H locs hS => ?_)
  obtain ⟨M1, eM1⟩ : ∃ q, q = (setI M 191 0 0) := ⟨_, rfl⟩
  replace hS : St b C n M1 s H locs := by rw [eM1]; exact hS
  replace hT := qlet_eq hT eM1
  refine lv_iload_n F.hx F.hb d_MO_fault_5 rfl (lv_at hl 1 rfl) ?_
  refine r_if_ne (tgt := 16) F.hx F.hb hx1 d_MO_fault_6 (by decide) (fun c2 => ?_) (fun c2 => ?_)
  · replace hT := (if_neg c2).symm.trans hT
    refine lv_iload_n F.hx F.hb d_MO_fault_16 rfl (lv_at hl 1 rfl) ?_
    refine r_iconst F.hx F.hb d_MO_fault_17 ?_
    refine r_icmp_ne (tgt := 28) F.hx F.hb hx1 (inr_c rfl) d_MO_fault_18 (by decide) (fun c3 => ?_) (fun c3 => ?_)
    · replace hT := (if_neg c3).symm.trans hT
      refine r_iconst F.hx F.hb d_MO_fault_28 ?_
      subst hT
      exact r_iret F hlk hr rfl hS (inr_c rfl) d_MO_fault_29
    · replace hT := (if_pos c3).symm.trans hT
      refine lv_aload_n F.hx F.hb d_MO_fault_21 rfl (lv_at hl 0 rfl) ?_
      refine r_get (v := vI (M1.1 191 27)) (N := 68) (T := T1) (j := 27) F hS (show 191 < 231 by decide) (show shK 191 = 5 from rfl) (show shN 191 = 68 from rfl) rfl (Nat.le_of_ble_eq_true rfl) ing1 mw_1416 (fv_int rfl) d_MO_fault_22 ?_
      have i4 := hS.rng 191 27
      refine lv_goto (tgt := 29) F.hx F.hb d_MO_fault_25 (by decide) ?_
      subst hT
      exact r_iret F hlk hr rfl hS i4 d_MO_fault_29
  · replace hT := (if_pos c2).symm.trans hT
    refine lv_aload_n F.hx F.hb d_MO_fault_9 rfl (lv_at hl 0 rfl) ?_
    refine r_get (v := vI (M1.1 191 26)) (N := 68) (T := T1) (j := 26) F hS (show 191 < 231 by decide) (show shK 191 = 5 from rfl) (show shN 191 = 68 from rfl) rfl (Nat.le_of_ble_eq_true rfl) ing1 mw_1415 (fv_int rfl) d_MO_fault_10 ?_
    have i5 := hS.rng 191 26
    refine lv_goto (tgt := 29) F.hx F.hb d_MO_fault_13 (by decide) ?_
    subst hT
    exact r_iret F hlk hr rfl hS i5 d_MO_fault_29
theorem d_MO_named_0 : decode b_MO_named 0 = .ok (.aload_n 0, 1) := dc_42 (by decide +kernel)
theorem d_MO_named_1 : decode b_MO_named 1 = .ok (.iconst 0, 1) := dc_3 (by decide +kernel)
theorem d_MO_named_2 : decode b_MO_named 2 = .ok (.putfield 145, 3) := dc_181 (by decide +kernel)
theorem d_MO_named_5 : decode b_MO_named 5 = .ok (.iload_n 1, 1) := dc_27 (by decide +kernel)
theorem d_MO_named_6 : decode b_MO_named 6 = .ok (.ifCond .ne 21, 3) := dc_154 (by decide +kernel)
theorem d_MO_named_9 : decode b_MO_named 9 = .ok (.aload_n 0, 1) := dc_42 (by decide +kernel)
theorem d_MO_named_10 : decode b_MO_named 10 = .ok (.getfield 16, 3) := dc_180 (by decide +kernel)
theorem d_MO_named_13 : decode b_MO_named 13 = .ok (.iconst 0, 1) := dc_3 (by decide +kernel)
theorem d_MO_named_14 : decode b_MO_named 14 = .ok (.aload_n 0, 1) := dc_42 (by decide +kernel)
theorem d_MO_named_15 : decode b_MO_named 15 = .ok (.getfield 13, 3) := dc_180 (by decide +kernel)
theorem d_MO_named_18 : decode b_MO_named 18 = .ok (.iconst 2, 1) := dc_5 (by decide +kernel)
theorem d_MO_named_19 : decode b_MO_named 19 = .ok (.iaload, 1) := dc_46 (by decide +kernel)
theorem d_MO_named_20 : decode b_MO_named 20 = .ok (.iload_n 2, 1) := dc_28 (by decide +kernel)
theorem d_MO_named_21 : decode b_MO_named 21 = .ok (.invokestatic 218, 3) := dc_184 (by decide +kernel)
theorem d_MO_named_24 : decode b_MO_named 24 = .ok (.goto 28, 3) := dc_167 (by decide +kernel)
theorem d_MO_named_27 : decode b_MO_named 27 = .ok (.iload_n 1, 1) := dc_27 (by decide +kernel)
theorem d_MO_named_28 : decode b_MO_named 28 = .ok (.iconst 1, 1) := dc_4 (by decide +kernel)
theorem d_MO_named_29 : decode b_MO_named 29 = .ok (.if_icmp .ne 22, 3) := dc_160 (by decide +kernel)
theorem d_MO_named_32 : decode b_MO_named 32 = .ok (.aload_n 0, 1) := dc_42 (by decide +kernel)
theorem d_MO_named_33 : decode b_MO_named 33 = .ok (.getfield 35, 3) := dc_180 (by decide +kernel)
theorem d_MO_named_36 : decode b_MO_named 36 = .ok (.iconst 0, 1) := dc_3 (by decide +kernel)
theorem d_MO_named_37 : decode b_MO_named 37 = .ok (.aload_n 0, 1) := dc_42 (by decide +kernel)
theorem d_MO_named_38 : decode b_MO_named 38 = .ok (.getfield 13, 3) := dc_180 (by decide +kernel)
theorem d_MO_named_41 : decode b_MO_named 41 = .ok (.bipush 6, 2) := dc_16 (by decide +kernel)
theorem d_MO_named_43 : decode b_MO_named 43 = .ok (.iaload, 1) := dc_46 (by decide +kernel)
theorem d_MO_named_44 : decode b_MO_named 44 = .ok (.iload_n 2, 1) := dc_28 (by decide +kernel)
theorem d_MO_named_45 : decode b_MO_named 45 = .ok (.invokestatic 218, 3) := dc_184 (by decide +kernel)
theorem d_MO_named_48 : decode b_MO_named 48 = .ok (.goto 4, 3) := dc_167 (by decide +kernel)
theorem d_MO_named_51 : decode b_MO_named 51 = .ok (.iconst (-1), 1) := dc_2 (by decide +kernel)
theorem d_MO_named_52 : decode b_MO_named 52 = .ok (.ireturn, 1) := dc_172 (by decide +kernel)
def t_MO_named (M : Mem) (x1 : Int) (x2 : Int) : Option (Mem × Int) := (qlet (setI M 191 0 0) fun M1 => (if x1 = 0 then (obind (t_MO_found M1 194 8 0 (M1.1 193 2) x2) fun q8 => (some (M1, q8))) else (if x1 = 1 then (obind (t_MO_found M1 200 16 0 (M1.1 193 6) x2) fun q5 => (some (M1, q5))) else (some (M1, (-1))))))
set_option maxHeartbeats 4000000 in
set_option maxRecDepth 100000 in
theorem c_MO_named (l : Launch) {b n : Nat} {C : CT} (hlo : 231 ≤ n) (M : Mem) (x1 : Int) (x2 : Int) (hx1 : InR x1) (hx2 : InR x2) (res : Mem × Int) (hT : t_MO_named M x1 x2 = some res) : CM l b C n 1 y_MO_named b_MO_named 3 (some .int) [.ref (b + 191), vI x1, vI x2] M (QI b C n res.1 res.2) := by
  refine CM.of (lo := 231) (ow := "WardFallsModel") (by decide) rfl (Nat.le_of_ble_eq_true rfl) hlo (fun p e s m below meth c F hlk hr hS ls hl => ?_)
  have hl : lv_has ls 3 [(0, .ref (b + 191)), (1, vI x1), (2, vI x2)] := hl
  unfold t_MO_named at hT
  refine lv_aload_n F.hx F.hb d_MO_named_0 rfl (lv_at hl 0 rfl) ?_
  refine r_iconst F.hx F.hb d_MO_named_1 ?_
  refine r_putI (N := 68) (T := T1) (j := 0) F hS (show 191 < 231 by decide) (show shK 191 = 5 from rfl) (show shN 191 = 68 from rfl) rfl (Nat.le_of_ble_eq_true rfl) ing1 tyok1 nm1 rfl rfl rfl rfl rfl rfl mw_1389 (inr_c rfl) d_MO_named_2 (fun H locs hS => ?_)
  obtain ⟨M1, eM1⟩ : ∃ q, q = (setI M 191 0 0) := ⟨_, rfl⟩
  replace hS : St b C n M1 s H locs := by rw [eM1]; exact hS
  replace hT := qlet_eq hT eM1
  refine lv_iload_n F.hx F.hb d_MO_named_5 rfl (lv_at hl 1 rfl) ?_
  refine r_if_ne (tgt := 27) F.hx F.hb hx1 d_MO_named_6 (by decide) (fun c2 => ?_) (fun c2 => ?_)
  · replace hT := (if_neg c2).symm.trans hT
    refine lv_iload_n F.hx F.hb d_MO_named_27 rfl (lv_at hl 1 rfl) ?_
    refine r_iconst F.hx F.hb d_MO_named_28 ?_
    refine r_icmp_ne (tgt := 51) F.hx F.hb hx1 (inr_c rfl) d_MO_named_29 (by decide) (fun c3 => ?_) (fun c3 => ?_)
    · replace hT := (if_neg c3).symm.trans hT
      refine r_iconst F.hx F.hb d_MO_named_51 ?_
      cases hT
      exact r_iret F hlk hr rfl hS (inr_c rfl) d_MO_named_52
    · replace hT := (if_pos c3).symm.trans hT
      refine lv_aload_n F.hx F.hb d_MO_named_32 rfl (lv_at hl 0 rfl) ?_
      refine r_get (v := .ref (b + 200)) (N := 68) (T := T1) (j := 10) F hS (show 191 < 231 by decide) (show shK 191 = 5 from rfl) (show shN 191 = 68 from rfl) rfl (Nat.le_of_ble_eq_true rfl) ing1 mw_1399 (fv_sg rfl rfl rfl) d_MO_named_33 ?_
      refine r_iconst F.hx F.hb d_MO_named_36 ?_
      refine lv_aload_n F.hx F.hb d_MO_named_37 rfl (lv_at hl 0 rfl) ?_
      refine r_get (v := .ref (b + 193)) (N := 68) (T := T1) (j := 3) F hS (show 191 < 231 by decide) (show shK 191 = 5 from rfl) (show shN 191 = 68 from rfl) rfl (Nat.le_of_ble_eq_true rfl) ing1 mw_1392 (fv_sg rfl rfl rfl) d_MO_named_38 ?_
      refine r_bipush F.hx F.hb d_MO_named_41 rfl ?_
      refine r_iald F hS (show 193 < 231 by decide) (show shK 193 = 0 from rfl) (show shN 193 = 18 from rfl) (inr_c rfl) (by omega) (by omega) d_MO_named_43 ?_
      have i4 := hS.rng 193 6
      refine lv_iload_n F.hx F.hb d_MO_named_44 rfl (lv_at hl 2 rfl) ?_
      obtain ⟨q5, hq5, hT⟩ := q_obind hT
      refine r_backI F hS (r_runS (As := [.ref (b + 200), vI 0, vI (M1.1 193 6), vI x2]) F hS (c_MO_found l F.2.2.1 M1 200 16 0 (M1.1 193 6) x2 (show arrP 0 200 16 231 from ⟨rfl, rfl, by decide⟩) (inr_c rfl) i4 hx2 _ hq5) gs_MO_218 hd_MO_found ⟨Nat.le_of_ble_eq_true rfl, Nat.le_of_ble_eq_true rfl⟩ rfl hl.1 (Nat.le_of_ble_eq_true rfl) ⟨Nat.zero_le _, Nat.zero_le _⟩ rfl d_MO_named_45) (fun H locs hS h6 => ?_)
      refine lv_goto (tgt := 52) F.hx F.hb d_MO_named_48 (by decide) ?_
      cases hT
      exact r_iret F hlk hr rfl hS h6 d_MO_named_52
  · replace hT := (if_pos c2).symm.trans hT
    refine lv_aload_n F.hx F.hb d_MO_named_9 rfl (lv_at hl 0 rfl) ?_
    refine r_get (v := .ref (b + 194)) (N := 68) (T := T1) (j := 4) F hS (show 191 < 231 by decide) (show shK 191 = 5 from rfl) (show shN 191 = 68 from rfl) rfl (Nat.le_of_ble_eq_true rfl) ing1 mw_1393 (fv_sg rfl rfl rfl) d_MO_named_10 ?_
    refine r_iconst F.hx F.hb d_MO_named_13 ?_
    refine lv_aload_n F.hx F.hb d_MO_named_14 rfl (lv_at hl 0 rfl) ?_
    refine r_get (v := .ref (b + 193)) (N := 68) (T := T1) (j := 3) F hS (show 191 < 231 by decide) (show shK 191 = 5 from rfl) (show shN 191 = 68 from rfl) rfl (Nat.le_of_ble_eq_true rfl) ing1 mw_1392 (fv_sg rfl rfl rfl) d_MO_named_15 ?_
    refine r_iconst F.hx F.hb d_MO_named_18 ?_
    refine r_iald F hS (show 193 < 231 by decide) (show shK 193 = 0 from rfl) (show shN 193 = 18 from rfl) (inr_c rfl) (by omega) (by omega) d_MO_named_19 ?_
    have i7 := hS.rng 193 2
    refine lv_iload_n F.hx F.hb d_MO_named_20 rfl (lv_at hl 2 rfl) ?_
    obtain ⟨q8, hq8, hT⟩ := q_obind hT
    refine r_backI F hS (r_runS (As := [.ref (b + 194), vI 0, vI (M1.1 193 2), vI x2]) F hS (c_MO_found l F.2.2.1 M1 194 8 0 (M1.1 193 2) x2 (show arrP 0 194 8 231 from ⟨rfl, rfl, by decide⟩) (inr_c rfl) i7 hx2 _ hq8) gs_MO_218 hd_MO_found ⟨Nat.le_of_ble_eq_true rfl, Nat.le_of_ble_eq_true rfl⟩ rfl hl.1 (Nat.le_of_ble_eq_true rfl) ⟨Nat.zero_le _, Nat.zero_le _⟩ rfl d_MO_named_21) (fun H locs hS h9 => ?_)
    refine lv_goto (tgt := 52) F.hx F.hb d_MO_named_24 (by decide) ?_
    cases hT
    exact r_iret F hlk hr rfl hS h9 d_MO_named_52
theorem wn_MO_copies_0 : ∀ i, i < 96 → bA b_MO_copies (0 + i) = wB [42, 180, 0, 60, 27, 42, 180, 0, 60, 28, 46, 79, 42, 180, 0, 63, 27, 42, 180, 0, 63, 28, 46, 79, 42, 180, 0, 66, 27, 42, 180, 0, 66, 28, 46, 79, 42, 180, 0, 69, 27, 42, 180, 0, 69, 28, 47, 80, 42, 180, 0, 73, 27, 42, 180, 0, 73, 28, 47, 80, 3, 62, 29, 7, 162, 0, 29, 42, 180, 0, 76, 7, 27, 104, 29, 96, 42, 180, 0, 76, 7, 28, 104, 29, 96, 46, 79, 132, 3, 1, 167, 255, 228, 3, 62, 29] i := wB_of (by decide +kernel)
theorem d_MO_copies_0 : decode b_MO_copies 0 = .ok (.aload_n 0, 1) := dc_42 (q0_win (r := 0) wn_MO_copies_0 (by decide +kernel))
theorem d_MO_copies_1 : decode b_MO_copies 1 = .ok (.getfield 60, 3) := dc_180 (qU2_win (r := 1) wn_MO_copies_0 (by decide +kernel))
theorem d_MO_copies_4 : decode b_MO_copies 4 = .ok (.iload_n 1, 1) := dc_27 (q0_win (r := 4) wn_MO_copies_0 (by decide +kernel))
theorem d_MO_copies_5 : decode b_MO_copies 5 = .ok (.aload_n 0, 1) := dc_42 (q0_win (r := 5) wn_MO_copies_0 (by decide +kernel))
theorem d_MO_copies_6 : decode b_MO_copies 6 = .ok (.getfield 60, 3) := dc_180 (qU2_win (r := 6) wn_MO_copies_0 (by decide +kernel))
theorem d_MO_copies_9 : decode b_MO_copies 9 = .ok (.iload_n 2, 1) := dc_28 (q0_win (r := 9) wn_MO_copies_0 (by decide +kernel))
theorem d_MO_copies_10 : decode b_MO_copies 10 = .ok (.iaload, 1) := dc_46 (q0_win (r := 10) wn_MO_copies_0 (by decide +kernel))
theorem d_MO_copies_11 : decode b_MO_copies 11 = .ok (.iastore, 1) := dc_79 (q0_win (r := 11) wn_MO_copies_0 (by decide +kernel))
theorem d_MO_copies_12 : decode b_MO_copies 12 = .ok (.aload_n 0, 1) := dc_42 (q0_win (r := 12) wn_MO_copies_0 (by decide +kernel))
theorem d_MO_copies_13 : decode b_MO_copies 13 = .ok (.getfield 63, 3) := dc_180 (qU2_win (r := 13) wn_MO_copies_0 (by decide +kernel))
theorem d_MO_copies_16 : decode b_MO_copies 16 = .ok (.iload_n 1, 1) := dc_27 (q0_win (r := 16) wn_MO_copies_0 (by decide +kernel))
theorem d_MO_copies_17 : decode b_MO_copies 17 = .ok (.aload_n 0, 1) := dc_42 (q0_win (r := 17) wn_MO_copies_0 (by decide +kernel))
theorem d_MO_copies_18 : decode b_MO_copies 18 = .ok (.getfield 63, 3) := dc_180 (qU2_win (r := 18) wn_MO_copies_0 (by decide +kernel))
theorem d_MO_copies_21 : decode b_MO_copies 21 = .ok (.iload_n 2, 1) := dc_28 (q0_win (r := 21) wn_MO_copies_0 (by decide +kernel))
theorem d_MO_copies_22 : decode b_MO_copies 22 = .ok (.iaload, 1) := dc_46 (q0_win (r := 22) wn_MO_copies_0 (by decide +kernel))
theorem d_MO_copies_23 : decode b_MO_copies 23 = .ok (.iastore, 1) := dc_79 (q0_win (r := 23) wn_MO_copies_0 (by decide +kernel))
theorem d_MO_copies_24 : decode b_MO_copies 24 = .ok (.aload_n 0, 1) := dc_42 (q0_win (r := 24) wn_MO_copies_0 (by decide +kernel))
theorem d_MO_copies_25 : decode b_MO_copies 25 = .ok (.getfield 66, 3) := dc_180 (qU2_win (r := 25) wn_MO_copies_0 (by decide +kernel))
theorem d_MO_copies_28 : decode b_MO_copies 28 = .ok (.iload_n 1, 1) := dc_27 (q0_win (r := 28) wn_MO_copies_0 (by decide +kernel))
theorem d_MO_copies_29 : decode b_MO_copies 29 = .ok (.aload_n 0, 1) := dc_42 (q0_win (r := 29) wn_MO_copies_0 (by decide +kernel))
theorem d_MO_copies_30 : decode b_MO_copies 30 = .ok (.getfield 66, 3) := dc_180 (qU2_win (r := 30) wn_MO_copies_0 (by decide +kernel))
theorem d_MO_copies_33 : decode b_MO_copies 33 = .ok (.iload_n 2, 1) := dc_28 (q0_win (r := 33) wn_MO_copies_0 (by decide +kernel))
theorem d_MO_copies_34 : decode b_MO_copies 34 = .ok (.iaload, 1) := dc_46 (q0_win (r := 34) wn_MO_copies_0 (by decide +kernel))
theorem d_MO_copies_35 : decode b_MO_copies 35 = .ok (.iastore, 1) := dc_79 (q0_win (r := 35) wn_MO_copies_0 (by decide +kernel))
theorem d_MO_copies_36 : decode b_MO_copies 36 = .ok (.aload_n 0, 1) := dc_42 (q0_win (r := 36) wn_MO_copies_0 (by decide +kernel))
theorem d_MO_copies_37 : decode b_MO_copies 37 = .ok (.getfield 69, 3) := dc_180 (qU2_win (r := 37) wn_MO_copies_0 (by decide +kernel))
theorem d_MO_copies_40 : decode b_MO_copies 40 = .ok (.iload_n 1, 1) := dc_27 (q0_win (r := 40) wn_MO_copies_0 (by decide +kernel))
theorem d_MO_copies_41 : decode b_MO_copies 41 = .ok (.aload_n 0, 1) := dc_42 (q0_win (r := 41) wn_MO_copies_0 (by decide +kernel))
theorem d_MO_copies_42 : decode b_MO_copies 42 = .ok (.getfield 69, 3) := dc_180 (qU2_win (r := 42) wn_MO_copies_0 (by decide +kernel))
theorem d_MO_copies_45 : decode b_MO_copies 45 = .ok (.iload_n 2, 1) := dc_28 (q0_win (r := 45) wn_MO_copies_0 (by decide +kernel))
theorem d_MO_copies_46 : decode b_MO_copies 46 = .ok (.laload, 1) := dc_47 (q0_win (r := 46) wn_MO_copies_0 (by decide +kernel))
theorem d_MO_copies_47 : decode b_MO_copies 47 = .ok (.lastore, 1) := dc_80 (q0_win (r := 47) wn_MO_copies_0 (by decide +kernel))
theorem d_MO_copies_48 : decode b_MO_copies 48 = .ok (.aload_n 0, 1) := dc_42 (q0_win (r := 48) wn_MO_copies_0 (by decide +kernel))
theorem d_MO_copies_49 : decode b_MO_copies 49 = .ok (.getfield 73, 3) := dc_180 (qU2_win (r := 49) wn_MO_copies_0 (by decide +kernel))
theorem d_MO_copies_52 : decode b_MO_copies 52 = .ok (.iload_n 1, 1) := dc_27 (q0_win (r := 52) wn_MO_copies_0 (by decide +kernel))
theorem d_MO_copies_53 : decode b_MO_copies 53 = .ok (.aload_n 0, 1) := dc_42 (q0_win (r := 53) wn_MO_copies_0 (by decide +kernel))
theorem d_MO_copies_54 : decode b_MO_copies 54 = .ok (.getfield 73, 3) := dc_180 (qU2_win (r := 54) wn_MO_copies_0 (by decide +kernel))
theorem d_MO_copies_57 : decode b_MO_copies 57 = .ok (.iload_n 2, 1) := dc_28 (q0_win (r := 57) wn_MO_copies_0 (by decide +kernel))
theorem d_MO_copies_58 : decode b_MO_copies 58 = .ok (.laload, 1) := dc_47 (q0_win (r := 58) wn_MO_copies_0 (by decide +kernel))
theorem d_MO_copies_59 : decode b_MO_copies 59 = .ok (.lastore, 1) := dc_80 (q0_win (r := 59) wn_MO_copies_0 (by decide +kernel))
theorem d_MO_copies_60 : decode b_MO_copies 60 = .ok (.iconst 0, 1) := dc_3 (q0_win (r := 60) wn_MO_copies_0 (by decide +kernel))
theorem d_MO_copies_61 : decode b_MO_copies 61 = .ok (.istore_n 3, 1) := dc_62 (q0_win (r := 61) wn_MO_copies_0 (by decide +kernel))
theorem d_MO_copies_62 : decode b_MO_copies 62 = .ok (.iload_n 3, 1) := dc_29 (q0_win (r := 62) wn_MO_copies_0 (by decide +kernel))
theorem d_MO_copies_63 : decode b_MO_copies 63 = .ok (.iconst 4, 1) := dc_7 (q0_win (r := 63) wn_MO_copies_0 (by decide +kernel))
theorem d_MO_copies_64 : decode b_MO_copies 64 = .ok (.if_icmp .ge 29, 3) := dc_162 (qS2_win (r := 64) wn_MO_copies_0 (by decide +kernel))
theorem d_MO_copies_67 : decode b_MO_copies 67 = .ok (.aload_n 0, 1) := dc_42 (q0_win (r := 67) wn_MO_copies_0 (by decide +kernel))
theorem d_MO_copies_68 : decode b_MO_copies 68 = .ok (.getfield 76, 3) := dc_180 (qU2_win (r := 68) wn_MO_copies_0 (by decide +kernel))
theorem d_MO_copies_71 : decode b_MO_copies 71 = .ok (.iconst 4, 1) := dc_7 (q0_win (r := 71) wn_MO_copies_0 (by decide +kernel))
theorem d_MO_copies_72 : decode b_MO_copies 72 = .ok (.iload_n 1, 1) := dc_27 (q0_win (r := 72) wn_MO_copies_0 (by decide +kernel))
theorem d_MO_copies_73 : decode b_MO_copies 73 = .ok (.imul, 1) := dc_104 (q0_win (r := 73) wn_MO_copies_0 (by decide +kernel))
theorem d_MO_copies_74 : decode b_MO_copies 74 = .ok (.iload_n 3, 1) := dc_29 (q0_win (r := 74) wn_MO_copies_0 (by decide +kernel))
theorem d_MO_copies_75 : decode b_MO_copies 75 = .ok (.iadd, 1) := dc_96 (q0_win (r := 75) wn_MO_copies_0 (by decide +kernel))
theorem d_MO_copies_76 : decode b_MO_copies 76 = .ok (.aload_n 0, 1) := dc_42 (q0_win (r := 76) wn_MO_copies_0 (by decide +kernel))
theorem d_MO_copies_77 : decode b_MO_copies 77 = .ok (.getfield 76, 3) := dc_180 (qU2_win (r := 77) wn_MO_copies_0 (by decide +kernel))
theorem d_MO_copies_80 : decode b_MO_copies 80 = .ok (.iconst 4, 1) := dc_7 (q0_win (r := 80) wn_MO_copies_0 (by decide +kernel))
theorem d_MO_copies_81 : decode b_MO_copies 81 = .ok (.iload_n 2, 1) := dc_28 (q0_win (r := 81) wn_MO_copies_0 (by decide +kernel))
theorem d_MO_copies_82 : decode b_MO_copies 82 = .ok (.imul, 1) := dc_104 (q0_win (r := 82) wn_MO_copies_0 (by decide +kernel))
theorem d_MO_copies_83 : decode b_MO_copies 83 = .ok (.iload_n 3, 1) := dc_29 (q0_win (r := 83) wn_MO_copies_0 (by decide +kernel))
theorem d_MO_copies_84 : decode b_MO_copies 84 = .ok (.iadd, 1) := dc_96 (q0_win (r := 84) wn_MO_copies_0 (by decide +kernel))
theorem d_MO_copies_85 : decode b_MO_copies 85 = .ok (.iaload, 1) := dc_46 (q0_win (r := 85) wn_MO_copies_0 (by decide +kernel))
theorem d_MO_copies_86 : decode b_MO_copies 86 = .ok (.iastore, 1) := dc_79 (q0_win (r := 86) wn_MO_copies_0 (by decide +kernel))
theorem d_MO_copies_87 : decode b_MO_copies 87 = .ok (.iinc 3 1, 3) := dc_132 (qI_win (r := 87) wn_MO_copies_0 (by decide +kernel))
theorem d_MO_copies_90 : decode b_MO_copies 90 = .ok (.goto (-28), 3) := dc_167 (qS2_win (r := 90) wn_MO_copies_0 (by decide +kernel))
theorem d_MO_copies_93 : decode b_MO_copies 93 = .ok (.iconst 0, 1) := dc_3 (q0_win (r := 93) wn_MO_copies_0 (by decide +kernel))
theorem d_MO_copies_94 : decode b_MO_copies 94 = .ok (.istore_n 3, 1) := dc_62 (q0_win (r := 94) wn_MO_copies_0 (by decide +kernel))
theorem d_MO_copies_95 : decode b_MO_copies 95 = .ok (.iload_n 3, 1) := dc_29 (q0_win (r := 95) wn_MO_copies_0 (by decide +kernel))
theorem wn_MO_copies_96 : ∀ i, i < 78 → bA b_MO_copies (96 + i) = wB [16, 8, 162, 0, 75, 42, 180, 0, 79, 16, 8, 27, 104, 29, 96, 42, 180, 0, 79, 16, 8, 28, 104, 29, 96, 46, 79, 42, 180, 0, 82, 16, 8, 27, 104, 29, 96, 42, 180, 0, 82, 16, 8, 28, 104, 29, 96, 46, 79, 42, 180, 0, 85, 16, 8, 27, 104, 29, 96, 42, 180, 0, 85, 16, 8, 28, 104, 29, 96, 46, 79, 132, 3, 1, 167, 255, 181, 177] i := wB_of (by decide +kernel)
theorem d_MO_copies_96 : decode b_MO_copies 96 = .ok (.bipush 8, 2) := dc_16 (qS1_win (r := 0) wn_MO_copies_96 (by decide +kernel))
theorem d_MO_copies_98 : decode b_MO_copies 98 = .ok (.if_icmp .ge 75, 3) := dc_162 (qS2_win (r := 2) wn_MO_copies_96 (by decide +kernel))
theorem d_MO_copies_101 : decode b_MO_copies 101 = .ok (.aload_n 0, 1) := dc_42 (q0_win (r := 5) wn_MO_copies_96 (by decide +kernel))
theorem d_MO_copies_102 : decode b_MO_copies 102 = .ok (.getfield 79, 3) := dc_180 (qU2_win (r := 6) wn_MO_copies_96 (by decide +kernel))
theorem d_MO_copies_105 : decode b_MO_copies 105 = .ok (.bipush 8, 2) := dc_16 (qS1_win (r := 9) wn_MO_copies_96 (by decide +kernel))
theorem d_MO_copies_107 : decode b_MO_copies 107 = .ok (.iload_n 1, 1) := dc_27 (q0_win (r := 11) wn_MO_copies_96 (by decide +kernel))
theorem d_MO_copies_108 : decode b_MO_copies 108 = .ok (.imul, 1) := dc_104 (q0_win (r := 12) wn_MO_copies_96 (by decide +kernel))
theorem d_MO_copies_109 : decode b_MO_copies 109 = .ok (.iload_n 3, 1) := dc_29 (q0_win (r := 13) wn_MO_copies_96 (by decide +kernel))
theorem d_MO_copies_110 : decode b_MO_copies 110 = .ok (.iadd, 1) := dc_96 (q0_win (r := 14) wn_MO_copies_96 (by decide +kernel))
theorem d_MO_copies_111 : decode b_MO_copies 111 = .ok (.aload_n 0, 1) := dc_42 (q0_win (r := 15) wn_MO_copies_96 (by decide +kernel))
theorem d_MO_copies_112 : decode b_MO_copies 112 = .ok (.getfield 79, 3) := dc_180 (qU2_win (r := 16) wn_MO_copies_96 (by decide +kernel))
theorem d_MO_copies_115 : decode b_MO_copies 115 = .ok (.bipush 8, 2) := dc_16 (qS1_win (r := 19) wn_MO_copies_96 (by decide +kernel))
theorem d_MO_copies_117 : decode b_MO_copies 117 = .ok (.iload_n 2, 1) := dc_28 (q0_win (r := 21) wn_MO_copies_96 (by decide +kernel))
theorem d_MO_copies_118 : decode b_MO_copies 118 = .ok (.imul, 1) := dc_104 (q0_win (r := 22) wn_MO_copies_96 (by decide +kernel))
theorem d_MO_copies_119 : decode b_MO_copies 119 = .ok (.iload_n 3, 1) := dc_29 (q0_win (r := 23) wn_MO_copies_96 (by decide +kernel))
theorem d_MO_copies_120 : decode b_MO_copies 120 = .ok (.iadd, 1) := dc_96 (q0_win (r := 24) wn_MO_copies_96 (by decide +kernel))
theorem d_MO_copies_121 : decode b_MO_copies 121 = .ok (.iaload, 1) := dc_46 (q0_win (r := 25) wn_MO_copies_96 (by decide +kernel))
theorem d_MO_copies_122 : decode b_MO_copies 122 = .ok (.iastore, 1) := dc_79 (q0_win (r := 26) wn_MO_copies_96 (by decide +kernel))
theorem d_MO_copies_123 : decode b_MO_copies 123 = .ok (.aload_n 0, 1) := dc_42 (q0_win (r := 27) wn_MO_copies_96 (by decide +kernel))
theorem d_MO_copies_124 : decode b_MO_copies 124 = .ok (.getfield 82, 3) := dc_180 (qU2_win (r := 28) wn_MO_copies_96 (by decide +kernel))
theorem d_MO_copies_127 : decode b_MO_copies 127 = .ok (.bipush 8, 2) := dc_16 (qS1_win (r := 31) wn_MO_copies_96 (by decide +kernel))
theorem d_MO_copies_129 : decode b_MO_copies 129 = .ok (.iload_n 1, 1) := dc_27 (q0_win (r := 33) wn_MO_copies_96 (by decide +kernel))
theorem d_MO_copies_130 : decode b_MO_copies 130 = .ok (.imul, 1) := dc_104 (q0_win (r := 34) wn_MO_copies_96 (by decide +kernel))
theorem d_MO_copies_131 : decode b_MO_copies 131 = .ok (.iload_n 3, 1) := dc_29 (q0_win (r := 35) wn_MO_copies_96 (by decide +kernel))
theorem d_MO_copies_132 : decode b_MO_copies 132 = .ok (.iadd, 1) := dc_96 (q0_win (r := 36) wn_MO_copies_96 (by decide +kernel))
theorem d_MO_copies_133 : decode b_MO_copies 133 = .ok (.aload_n 0, 1) := dc_42 (q0_win (r := 37) wn_MO_copies_96 (by decide +kernel))
theorem d_MO_copies_134 : decode b_MO_copies 134 = .ok (.getfield 82, 3) := dc_180 (qU2_win (r := 38) wn_MO_copies_96 (by decide +kernel))
theorem d_MO_copies_137 : decode b_MO_copies 137 = .ok (.bipush 8, 2) := dc_16 (qS1_win (r := 41) wn_MO_copies_96 (by decide +kernel))
theorem d_MO_copies_139 : decode b_MO_copies 139 = .ok (.iload_n 2, 1) := dc_28 (q0_win (r := 43) wn_MO_copies_96 (by decide +kernel))
theorem d_MO_copies_140 : decode b_MO_copies 140 = .ok (.imul, 1) := dc_104 (q0_win (r := 44) wn_MO_copies_96 (by decide +kernel))
theorem d_MO_copies_141 : decode b_MO_copies 141 = .ok (.iload_n 3, 1) := dc_29 (q0_win (r := 45) wn_MO_copies_96 (by decide +kernel))
theorem d_MO_copies_142 : decode b_MO_copies 142 = .ok (.iadd, 1) := dc_96 (q0_win (r := 46) wn_MO_copies_96 (by decide +kernel))
theorem d_MO_copies_143 : decode b_MO_copies 143 = .ok (.iaload, 1) := dc_46 (q0_win (r := 47) wn_MO_copies_96 (by decide +kernel))
theorem d_MO_copies_144 : decode b_MO_copies 144 = .ok (.iastore, 1) := dc_79 (q0_win (r := 48) wn_MO_copies_96 (by decide +kernel))
theorem d_MO_copies_145 : decode b_MO_copies 145 = .ok (.aload_n 0, 1) := dc_42 (q0_win (r := 49) wn_MO_copies_96 (by decide +kernel))
theorem d_MO_copies_146 : decode b_MO_copies 146 = .ok (.getfield 85, 3) := dc_180 (qU2_win (r := 50) wn_MO_copies_96 (by decide +kernel))
theorem d_MO_copies_149 : decode b_MO_copies 149 = .ok (.bipush 8, 2) := dc_16 (qS1_win (r := 53) wn_MO_copies_96 (by decide +kernel))
theorem d_MO_copies_151 : decode b_MO_copies 151 = .ok (.iload_n 1, 1) := dc_27 (q0_win (r := 55) wn_MO_copies_96 (by decide +kernel))
theorem d_MO_copies_152 : decode b_MO_copies 152 = .ok (.imul, 1) := dc_104 (q0_win (r := 56) wn_MO_copies_96 (by decide +kernel))
theorem d_MO_copies_153 : decode b_MO_copies 153 = .ok (.iload_n 3, 1) := dc_29 (q0_win (r := 57) wn_MO_copies_96 (by decide +kernel))
theorem d_MO_copies_154 : decode b_MO_copies 154 = .ok (.iadd, 1) := dc_96 (q0_win (r := 58) wn_MO_copies_96 (by decide +kernel))
theorem d_MO_copies_155 : decode b_MO_copies 155 = .ok (.aload_n 0, 1) := dc_42 (q0_win (r := 59) wn_MO_copies_96 (by decide +kernel))
theorem d_MO_copies_156 : decode b_MO_copies 156 = .ok (.getfield 85, 3) := dc_180 (qU2_win (r := 60) wn_MO_copies_96 (by decide +kernel))
theorem d_MO_copies_159 : decode b_MO_copies 159 = .ok (.bipush 8, 2) := dc_16 (qS1_win (r := 63) wn_MO_copies_96 (by decide +kernel))
theorem d_MO_copies_161 : decode b_MO_copies 161 = .ok (.iload_n 2, 1) := dc_28 (q0_win (r := 65) wn_MO_copies_96 (by decide +kernel))
theorem d_MO_copies_162 : decode b_MO_copies 162 = .ok (.imul, 1) := dc_104 (q0_win (r := 66) wn_MO_copies_96 (by decide +kernel))
theorem d_MO_copies_163 : decode b_MO_copies 163 = .ok (.iload_n 3, 1) := dc_29 (q0_win (r := 67) wn_MO_copies_96 (by decide +kernel))
theorem d_MO_copies_164 : decode b_MO_copies 164 = .ok (.iadd, 1) := dc_96 (q0_win (r := 68) wn_MO_copies_96 (by decide +kernel))
theorem d_MO_copies_165 : decode b_MO_copies 165 = .ok (.iaload, 1) := dc_46 (q0_win (r := 69) wn_MO_copies_96 (by decide +kernel))
theorem d_MO_copies_166 : decode b_MO_copies 166 = .ok (.iastore, 1) := dc_79 (q0_win (r := 70) wn_MO_copies_96 (by decide +kernel))
theorem d_MO_copies_167 : decode b_MO_copies 167 = .ok (.iinc 3 1, 3) := dc_132 (qI_win (r := 71) wn_MO_copies_96 (by decide +kernel))
theorem d_MO_copies_170 : decode b_MO_copies 170 = .ok (.goto (-75), 3) := dc_167 (qS2_win (r := 74) wn_MO_copies_96 (by decide +kernel))
theorem d_MO_copies_173 : decode b_MO_copies 173 = .ok (.return_, 1) := dc_177 (q0_win (r := 77) wn_MO_copies_96 (by decide +kernel))
def t_MO_copies_L95 (x1 : Int) (x2 : Int)  : Nat → Mem → Int → Option (Mem)
  | 0, _, _ => none
  | fu + 1, M, v3_ => (if 8 ≤ v3_ then (some M) else (qguard (0 ≤ (w32 ((w32 (8 * x2)) + v3_)) ∧ (w32 ((w32 (8 * x2)) + v3_)) < 184) (qguard (0 ≤ (w32 ((w32 (8 * x1)) + v3_)) ∧ (w32 ((w32 (8 * x1)) + v3_)) < 184) (qlet (setI M 213 (w32 ((w32 (8 * x1)) + v3_)) (M.1 213 (w32 ((w32 (8 * x2)) + v3_)))) fun M28 => (qguard (0 ≤ (w32 ((w32 (8 * x2)) + v3_)) ∧ (w32 ((w32 (8 * x2)) + v3_)) < 184) (qguard (0 ≤ (w32 ((w32 (8 * x1)) + v3_)) ∧ (w32 ((w32 (8 * x1)) + v3_)) < 184) (qlet (setI M28 214 (w32 ((w32 (8 * x1)) + v3_)) (M28.1 214 (w32 ((w32 (8 * x2)) + v3_)))) fun M32 => (qguard (0 ≤ (w32 ((w32 (8 * x2)) + v3_)) ∧ (w32 ((w32 (8 * x2)) + v3_)) < 184) (qguard (0 ≤ (w32 ((w32 (8 * x1)) + v3_)) ∧ (w32 ((w32 (8 * x1)) + v3_)) < 184) (qlet (setI M32 215 (w32 ((w32 (8 * x1)) + v3_)) (M32.1 215 (w32 ((w32 (8 * x2)) + v3_)))) fun M36 => (t_MO_copies_L95 x1 x2 fu M36 (w32 (v3_ + 1)))))))))))))
def t_MO_copies_L62 (x1 : Int) (x2 : Int)  : Nat → Mem → Int → Option (Mem)
  | 0, _, _ => none
  | fu + 1, M, v3_ => (if 4 ≤ v3_ then (t_MO_copies_L95 x1 x2 FU M 0) else (qguard (0 ≤ (w32 ((w32 (4 * x2)) + v3_)) ∧ (w32 ((w32 (4 * x2)) + v3_)) < 92) (qguard (0 ≤ (w32 ((w32 (4 * x1)) + v3_)) ∧ (w32 ((w32 (4 * x1)) + v3_)) < 92) (qlet (setI M 212 (w32 ((w32 (4 * x1)) + v3_)) (M.1 212 (w32 ((w32 (4 * x2)) + v3_)))) fun M23 => (t_MO_copies_L62 x1 x2 fu M23 (w32 (v3_ + 1)))))))
def t_MO_copies (M : Mem) (x1 : Int) (x2 : Int) : Option (Mem) := (qguard (0 ≤ x2 ∧ x2 < 23) (qguard (0 ≤ x1 ∧ x1 < 23) (qlet (setI M 207 x1 (M.1 207 x2)) fun M4 => (qguard (0 ≤ x2 ∧ x2 < 23) (qguard (0 ≤ x1 ∧ x1 < 23) (qlet (setI M4 208 x1 (M4.1 208 x2)) fun M8 => (qguard (0 ≤ x2 ∧ x2 < 23) (qguard (0 ≤ x1 ∧ x1 < 23) (qlet (setI M8 209 x1 (M8.1 209 x2)) fun M12 => (qguard (0 ≤ x2 ∧ x2 < 23) (qguard (0 ≤ x1 ∧ x1 < 23) (qlet (setL M12 210 x1 (M12.2 210 x2)) fun M15 => (qguard (0 ≤ x2 ∧ x2 < 23) (qguard (0 ≤ x1 ∧ x1 < 23) (qlet (setL M15 211 x1 (M15.2 211 x2)) fun M18 => (t_MO_copies_L62 x1 x2 FU M18 0))))))))))))))))
set_option maxHeartbeats 4000000 in
set_option maxRecDepth 100000 in
theorem k_MO_copies_L95 (l : Launch) {p : Program} {e : Env} {s : State} {m : MethodId} {below : List Frame} {meth : Method} {c : Code} {b n : Nat} {C : CT} (hlo : 231 ≤ n) (x1 : Int) (x2 : Int) (hx1 : InR x1) (hx2 : InR x2) (F : Cx b p m c b_MO_copies 4 s ([.ref (b + 191), vI x1, vI x2] : List Value).toArray "WardFallsModel" C n 231) (hlk : meth.locks = false) (hr : meth.sig.returnType = none) {res : Mem} : ∀ (fu : Nat) (M : Mem) (v3_ : Int) (hv3_ : InR v3_) (H : Heap) (locs : List Loc) (ls : Array Slot), St b C n M s H locs → lv_has ls 4 [(0, .ref (b + 191)), (1, vI x1), (2, vI x2), (3, vI v3_)] → t_MO_copies_L95 x1 x2 fu M v3_ = some res → W p l e (headSpec (wsM y_MO_copies b_MO_copies 4 (none)) (rmD 0)).room s m ([.ref (b + 191), vI x1, vI x2] : List Value).toArray below meth c H locs 0 0 (MQ below (QV b C n res) ([.ref (b + 191), vI x1, vI x2] : List Value).toArray s 0 0 (frb b)) (F0 m 95 ls []) := by
  intro fu
  induction fu with
  | zero => intro M v3_ hv3_ H locs ls hS hl hT; exact absurd hT (by simp [t_MO_copies_L95])
  | succ fu ih =>
    intro M v3_ hv3_ H locs ls hS hl hT
    rw [t_MO_copies_L95] at hT
    refine lv_iload_n F.hx F.hb d_MO_copies_95 rfl (lv_at hl 3 rfl) ?_
    refine r_bipush F.hx F.hb d_MO_copies_96 rfl ?_
    refine r_icmp_ge (tgt := 173) F.hx F.hb hv3_ (inr_c rfl) d_MO_copies_98 (by decide) (fun c24 => ?_) (fun c24 => ?_)
    · replace hT := (if_pos c24).symm.trans hT
      cases hT
      exact r_vret F hlk hr hS d_MO_copies_173
    · replace hT := (if_neg c24).symm.trans hT
      refine lv_aload_n F.hx F.hb d_MO_copies_101 rfl (lv_at hl 0 rfl) ?_
      refine r_get (v := .ref (b + 213)) (N := 68) (T := T1) (j := 36) F hS (show 191 < 231 by decide) (show shK 191 = 5 from rfl) (show shN 191 = 68 from rfl) rfl (Nat.le_of_ble_eq_true rfl) ing1 mw_1425 (fv_sg rfl rfl rfl) d_MO_copies_102 ?_
      refine r_bipush F.hx F.hb d_MO_copies_105 rfl ?_
      refine lv_iload_n F.hx F.hb d_MO_copies_107 rfl (lv_at hl 1 rfl) ?_
      refine r_imul F.hx F.hb d_MO_copies_108 ?_
      refine lv_iload_n F.hx F.hb d_MO_copies_109 rfl (lv_at hl 3 rfl) ?_
      refine r_iadd F.hx F.hb d_MO_copies_110 ?_
      refine lv_aload_n F.hx F.hb d_MO_copies_111 rfl (lv_at hl 0 rfl) ?_
      refine r_get (v := .ref (b + 213)) (N := 68) (T := T1) (j := 36) F hS (show 191 < 231 by decide) (show shK 191 = 5 from rfl) (show shN 191 = 68 from rfl) rfl (Nat.le_of_ble_eq_true rfl) ing1 mw_1425 (fv_sg rfl rfl rfl) d_MO_copies_112 ?_
      refine r_bipush F.hx F.hb d_MO_copies_115 rfl ?_
      refine lv_iload_n F.hx F.hb d_MO_copies_117 rfl (lv_at hl 2 rfl) ?_
      refine r_imul F.hx F.hb d_MO_copies_118 ?_
      refine lv_iload_n F.hx F.hb d_MO_copies_119 rfl (lv_at hl 3 rfl) ?_
      refine r_iadd F.hx F.hb d_MO_copies_120 ?_
      obtain ⟨⟨g25a, g25b⟩, hT⟩ := q_guard hT
      refine r_iald F hS (show 213 < 231 by decide) (show shK 213 = 0 from rfl) (show shN 213 = 184 from rfl) (inr_w32 _) g25a g25b d_MO_copies_121 ?_
      have i26 := hS.rng 213 (w32 ((w32 (8 * x2)) + v3_))
      obtain ⟨⟨g27a, g27b⟩, hT⟩ := q_guard hT
      refine r_iast F hS (show 213 < 231 by decide) (show shK 213 = 0 from rfl) (show shN 213 = 184 from rfl) (inr_w32 _) i26 g27a g27b d_MO_copies_122 (fun H locs hS => ?_)
      obtain ⟨M28, eM28⟩ : ∃ q, q = (setI M 213 (w32 ((w32 (8 * x1)) + v3_)) (M.1 213 (w32 ((w32 (8 * x2)) + v3_)))) := ⟨_, rfl⟩
      replace hS : St b C n M28 s H locs := by rw [eM28]; exact hS
      replace hT := qlet_eq hT eM28
      refine lv_aload_n F.hx F.hb d_MO_copies_123 rfl (lv_at hl 0 rfl) ?_
      refine r_get (v := .ref (b + 214)) (N := 68) (T := T1) (j := 37) F hS (show 191 < 231 by decide) (show shK 191 = 5 from rfl) (show shN 191 = 68 from rfl) rfl (Nat.le_of_ble_eq_true rfl) ing1 mw_1426 (fv_sg rfl rfl rfl) d_MO_copies_124 ?_
      refine r_bipush F.hx F.hb d_MO_copies_127 rfl ?_
      refine lv_iload_n F.hx F.hb d_MO_copies_129 rfl (lv_at hl 1 rfl) ?_
      refine r_imul F.hx F.hb d_MO_copies_130 ?_
      refine lv_iload_n F.hx F.hb d_MO_copies_131 rfl (lv_at hl 3 rfl) ?_
      refine r_iadd F.hx F.hb d_MO_copies_132 ?_
      refine lv_aload_n F.hx F.hb d_MO_copies_133 rfl (lv_at hl 0 rfl) ?_
      refine r_get (v := .ref (b + 214)) (N := 68) (T := T1) (j := 37) F hS (show 191 < 231 by decide) (show shK 191 = 5 from rfl) (show shN 191 = 68 from rfl) rfl (Nat.le_of_ble_eq_true rfl) ing1 mw_1426 (fv_sg rfl rfl rfl) d_MO_copies_134 ?_
      refine r_bipush F.hx F.hb d_MO_copies_137 rfl ?_
      refine lv_iload_n F.hx F.hb d_MO_copies_139 rfl (lv_at hl 2 rfl) ?_
      refine r_imul F.hx F.hb d_MO_copies_140 ?_
      refine lv_iload_n F.hx F.hb d_MO_copies_141 rfl (lv_at hl 3 rfl) ?_
      refine r_iadd F.hx F.hb d_MO_copies_142 ?_
      obtain ⟨⟨g29a, g29b⟩, hT⟩ := q_guard hT
      refine r_iald F hS (show 214 < 231 by decide) (show shK 214 = 0 from rfl) (show shN 214 = 184 from rfl) (inr_w32 _) g29a g29b d_MO_copies_143 ?_
      have i30 := hS.rng 214 (w32 ((w32 (8 * x2)) + v3_))
      obtain ⟨⟨g31a, g31b⟩, hT⟩ := q_guard hT
      refine r_iast F hS (show 214 < 231 by decide) (show shK 214 = 0 from rfl) (show shN 214 = 184 from rfl) (inr_w32 _) i30 g31a g31b d_MO_copies_144 (fun H locs hS => ?_)
      obtain ⟨M32, eM32⟩ : ∃ q, q = (setI M28 214 (w32 ((w32 (8 * x1)) + v3_)) (M28.1 214 (w32 ((w32 (8 * x2)) + v3_)))) := ⟨_, rfl⟩
      replace hS : St b C n M32 s H locs := by rw [eM32]; exact hS
      replace hT := qlet_eq hT eM32
      refine lv_aload_n F.hx F.hb d_MO_copies_145 rfl (lv_at hl 0 rfl) ?_
      refine r_get (v := .ref (b + 215)) (N := 68) (T := T1) (j := 38) F hS (show 191 < 231 by decide) (show shK 191 = 5 from rfl) (show shN 191 = 68 from rfl) rfl (Nat.le_of_ble_eq_true rfl) ing1 mw_1427 (fv_sg rfl rfl rfl) d_MO_copies_146 ?_
      refine r_bipush F.hx F.hb d_MO_copies_149 rfl ?_
      refine lv_iload_n F.hx F.hb d_MO_copies_151 rfl (lv_at hl 1 rfl) ?_
      refine r_imul F.hx F.hb d_MO_copies_152 ?_
      refine lv_iload_n F.hx F.hb d_MO_copies_153 rfl (lv_at hl 3 rfl) ?_
      refine r_iadd F.hx F.hb d_MO_copies_154 ?_
      refine lv_aload_n F.hx F.hb d_MO_copies_155 rfl (lv_at hl 0 rfl) ?_
      refine r_get (v := .ref (b + 215)) (N := 68) (T := T1) (j := 38) F hS (show 191 < 231 by decide) (show shK 191 = 5 from rfl) (show shN 191 = 68 from rfl) rfl (Nat.le_of_ble_eq_true rfl) ing1 mw_1427 (fv_sg rfl rfl rfl) d_MO_copies_156 ?_
      refine r_bipush F.hx F.hb d_MO_copies_159 rfl ?_
      refine lv_iload_n F.hx F.hb d_MO_copies_161 rfl (lv_at hl 2 rfl) ?_
      refine r_imul F.hx F.hb d_MO_copies_162 ?_
      refine lv_iload_n F.hx F.hb d_MO_copies_163 rfl (lv_at hl 3 rfl) ?_
      refine r_iadd F.hx F.hb d_MO_copies_164 ?_
      obtain ⟨⟨g33a, g33b⟩, hT⟩ := q_guard hT
      refine r_iald F hS (show 215 < 231 by decide) (show shK 215 = 0 from rfl) (show shN 215 = 184 from rfl) (inr_w32 _) g33a g33b d_MO_copies_165 ?_
      have i34 := hS.rng 215 (w32 ((w32 (8 * x2)) + v3_))
      obtain ⟨⟨g35a, g35b⟩, hT⟩ := q_guard hT
      refine r_iast F hS (show 215 < 231 by decide) (show shK 215 = 0 from rfl) (show shN 215 = 184 from rfl) (inr_w32 _) i34 g35a g35b d_MO_copies_166 (fun H locs hS => ?_)
      obtain ⟨M36, eM36⟩ : ∃ q, q = (setI M32 215 (w32 ((w32 (8 * x1)) + v3_)) (M32.1 215 (w32 ((w32 (8 * x2)) + v3_)))) := ⟨_, rfl⟩
      replace hS : St b C n M36 s H locs := by rw [eM36]; exact hS
      replace hT := qlet_eq hT eM36
      refine lv_iinc (v := Int32.ofInt (w32 (v3_ + 1))) (lv' := [(3, vI (w32 (v3_ + 1))), (0, .ref (b + 191)), (1, vI x1), (2, vI x2)]) F.hx F.hb d_MO_copies_167 hl (k := 3) rfl (q_of_add _ _) (Nat.le_of_ble_eq_true rfl) rfl (fun ls hl => ?_)
      refine lv_goto (tgt := 95) F.hx F.hb d_MO_copies_170 (by decide) ?_
      exact ih M36 (w32 (v3_ + 1)) (inr_w32 _) _ _ _ hS (lv_sub hl [1, 2, 3, 0] rfl) hT
set_option maxHeartbeats 4000000 in
set_option maxRecDepth 100000 in
theorem k_MO_copies_L62 (l : Launch) {p : Program} {e : Env} {s : State} {m : MethodId} {below : List Frame} {meth : Method} {c : Code} {b n : Nat} {C : CT} (hlo : 231 ≤ n) (x1 : Int) (x2 : Int) (hx1 : InR x1) (hx2 : InR x2) (F : Cx b p m c b_MO_copies 4 s ([.ref (b + 191), vI x1, vI x2] : List Value).toArray "WardFallsModel" C n 231) (hlk : meth.locks = false) (hr : meth.sig.returnType = none) {res : Mem} : ∀ (fu : Nat) (M : Mem) (v3_ : Int) (hv3_ : InR v3_) (H : Heap) (locs : List Loc) (ls : Array Slot), St b C n M s H locs → lv_has ls 4 [(0, .ref (b + 191)), (1, vI x1), (2, vI x2), (3, vI v3_)] → t_MO_copies_L62 x1 x2 fu M v3_ = some res → W p l e (headSpec (wsM y_MO_copies b_MO_copies 4 (none)) (rmD 0)).room s m ([.ref (b + 191), vI x1, vI x2] : List Value).toArray below meth c H locs 0 0 (MQ below (QV b C n res) ([.ref (b + 191), vI x1, vI x2] : List Value).toArray s 0 0 (frb b)) (F0 m 62 ls []) := by
  intro fu
  induction fu with
  | zero => intro M v3_ hv3_ H locs ls hS hl hT; exact absurd hT (by simp [t_MO_copies_L62])
  | succ fu ih =>
    intro M v3_ hv3_ H locs ls hS hl hT
    rw [t_MO_copies_L62] at hT
    refine lv_iload_n F.hx F.hb d_MO_copies_62 rfl (lv_at hl 3 rfl) ?_
    refine r_iconst F.hx F.hb d_MO_copies_63 ?_
    refine r_icmp_ge (tgt := 93) F.hx F.hb hv3_ (inr_c rfl) d_MO_copies_64 (by decide) (fun c19 => ?_) (fun c19 => ?_)
    · replace hT := (if_pos c19).symm.trans hT
      refine r_iconst F.hx F.hb d_MO_copies_93 ?_
      refine lv_istore_n (lv' := [(3, vI 0), (0, .ref (b + 191)), (1, vI x1), (2, vI x2)]) F.hx F.hb d_MO_copies_94 rfl hl (Nat.le_of_ble_eq_true rfl) rfl (fun ls hl => ?_)
      exact k_MO_copies_L95 l hlo x1 x2 hx1 hx2 F hlk hr FU M 0 (inr_c rfl) _ _ _ hS (lv_sub hl [1, 2, 3, 0] rfl) hT
    · replace hT := (if_neg c19).symm.trans hT
      refine lv_aload_n F.hx F.hb d_MO_copies_67 rfl (lv_at hl 0 rfl) ?_
      refine r_get (v := .ref (b + 212)) (N := 68) (T := T1) (j := 35) F hS (show 191 < 231 by decide) (show shK 191 = 5 from rfl) (show shN 191 = 68 from rfl) rfl (Nat.le_of_ble_eq_true rfl) ing1 mw_1424 (fv_sg rfl rfl rfl) d_MO_copies_68 ?_
      refine r_iconst F.hx F.hb d_MO_copies_71 ?_
      refine lv_iload_n F.hx F.hb d_MO_copies_72 rfl (lv_at hl 1 rfl) ?_
      refine r_imul F.hx F.hb d_MO_copies_73 ?_
      refine lv_iload_n F.hx F.hb d_MO_copies_74 rfl (lv_at hl 3 rfl) ?_
      refine r_iadd F.hx F.hb d_MO_copies_75 ?_
      refine lv_aload_n F.hx F.hb d_MO_copies_76 rfl (lv_at hl 0 rfl) ?_
      refine r_get (v := .ref (b + 212)) (N := 68) (T := T1) (j := 35) F hS (show 191 < 231 by decide) (show shK 191 = 5 from rfl) (show shN 191 = 68 from rfl) rfl (Nat.le_of_ble_eq_true rfl) ing1 mw_1424 (fv_sg rfl rfl rfl) d_MO_copies_77 ?_
      refine r_iconst F.hx F.hb d_MO_copies_80 ?_
      refine lv_iload_n F.hx F.hb d_MO_copies_81 rfl (lv_at hl 2 rfl) ?_
      refine r_imul F.hx F.hb d_MO_copies_82 ?_
      refine lv_iload_n F.hx F.hb d_MO_copies_83 rfl (lv_at hl 3 rfl) ?_
      refine r_iadd F.hx F.hb d_MO_copies_84 ?_
      obtain ⟨⟨g20a, g20b⟩, hT⟩ := q_guard hT
      refine r_iald F hS (show 212 < 231 by decide) (show shK 212 = 0 from rfl) (show shN 212 = 92 from rfl) (inr_w32 _) g20a g20b d_MO_copies_85 ?_
      have i21 := hS.rng 212 (w32 ((w32 (4 * x2)) + v3_))
      obtain ⟨⟨g22a, g22b⟩, hT⟩ := q_guard hT
      refine r_iast F hS (show 212 < 231 by decide) (show shK 212 = 0 from rfl) (show shN 212 = 92 from rfl) (inr_w32 _) i21 g22a g22b d_MO_copies_86 (fun H locs hS => ?_)
      obtain ⟨M23, eM23⟩ : ∃ q, q = (setI M 212 (w32 ((w32 (4 * x1)) + v3_)) (M.1 212 (w32 ((w32 (4 * x2)) + v3_)))) := ⟨_, rfl⟩
      replace hS : St b C n M23 s H locs := by rw [eM23]; exact hS
      replace hT := qlet_eq hT eM23
      refine lv_iinc (v := Int32.ofInt (w32 (v3_ + 1))) (lv' := [(3, vI (w32 (v3_ + 1))), (0, .ref (b + 191)), (1, vI x1), (2, vI x2)]) F.hx F.hb d_MO_copies_87 hl (k := 3) rfl (q_of_add _ _) (Nat.le_of_ble_eq_true rfl) rfl (fun ls hl => ?_)
      refine lv_goto (tgt := 62) F.hx F.hb d_MO_copies_90 (by decide) ?_
      exact ih M23 (w32 (v3_ + 1)) (inr_w32 _) _ _ _ hS (lv_sub hl [1, 2, 3, 0] rfl) hT
set_option maxHeartbeats 4000000 in
set_option maxRecDepth 100000 in
theorem c_MO_copies (l : Launch) {b n : Nat} {C : CT} (hlo : 231 ≤ n) (M : Mem) (x1 : Int) (x2 : Int) (hx1 : InR x1) (hx2 : InR x2) (res : Mem) (hT : t_MO_copies M x1 x2 = some res) : CM l b C n 0 y_MO_copies b_MO_copies 4 (none) [.ref (b + 191), vI x1, vI x2] M (QV b C n res) := by
  refine CM.of (lo := 231) (ow := "WardFallsModel") (by decide) rfl (Nat.le_of_ble_eq_true rfl) hlo (fun p e s m below meth c F hlk hr hS ls hl => ?_)
  have hl : lv_has ls 4 [(0, .ref (b + 191)), (1, vI x1), (2, vI x2)] := hl
  unfold t_MO_copies at hT
  refine lv_aload_n F.hx F.hb d_MO_copies_0 rfl (lv_at hl 0 rfl) ?_
  refine r_get (v := .ref (b + 207)) (N := 68) (T := T1) (j := 30) F hS (show 191 < 231 by decide) (show shK 191 = 5 from rfl) (show shN 191 = 68 from rfl) rfl (Nat.le_of_ble_eq_true rfl) ing1 mw_1419 (fv_sg rfl rfl rfl) d_MO_copies_1 ?_
  refine lv_iload_n F.hx F.hb d_MO_copies_4 rfl (lv_at hl 1 rfl) ?_
  refine lv_aload_n F.hx F.hb d_MO_copies_5 rfl (lv_at hl 0 rfl) ?_
  refine r_get (v := .ref (b + 207)) (N := 68) (T := T1) (j := 30) F hS (show 191 < 231 by decide) (show shK 191 = 5 from rfl) (show shN 191 = 68 from rfl) rfl (Nat.le_of_ble_eq_true rfl) ing1 mw_1419 (fv_sg rfl rfl rfl) d_MO_copies_6 ?_
  refine lv_iload_n F.hx F.hb d_MO_copies_9 rfl (lv_at hl 2 rfl) ?_
  obtain ⟨⟨g1a, g1b⟩, hT⟩ := q_guard hT
  refine r_iald F hS (show 207 < 231 by decide) (show shK 207 = 0 from rfl) (show shN 207 = 23 from rfl) hx2 g1a g1b d_MO_copies_10 ?_
  have i2 := hS.rng 207 x2
  obtain ⟨⟨g3a, g3b⟩, hT⟩ := q_guard hT
  refine r_iast F hS (show 207 < 231 by decide) (show shK 207 = 0 from rfl) (show shN 207 = 23 from rfl) hx1 i2 g3a g3b d_MO_copies_11 (fun H locs hS => ?_)
  obtain ⟨M4, eM4⟩ : ∃ q, q = (setI M 207 x1 (M.1 207 x2)) := ⟨_, rfl⟩
  replace hS : St b C n M4 s H locs := by rw [eM4]; exact hS
  replace hT := qlet_eq hT eM4
  refine lv_aload_n F.hx F.hb d_MO_copies_12 rfl (lv_at hl 0 rfl) ?_
  refine r_get (v := .ref (b + 208)) (N := 68) (T := T1) (j := 31) F hS (show 191 < 231 by decide) (show shK 191 = 5 from rfl) (show shN 191 = 68 from rfl) rfl (Nat.le_of_ble_eq_true rfl) ing1 mw_1420 (fv_sg rfl rfl rfl) d_MO_copies_13 ?_
  refine lv_iload_n F.hx F.hb d_MO_copies_16 rfl (lv_at hl 1 rfl) ?_
  refine lv_aload_n F.hx F.hb d_MO_copies_17 rfl (lv_at hl 0 rfl) ?_
  refine r_get (v := .ref (b + 208)) (N := 68) (T := T1) (j := 31) F hS (show 191 < 231 by decide) (show shK 191 = 5 from rfl) (show shN 191 = 68 from rfl) rfl (Nat.le_of_ble_eq_true rfl) ing1 mw_1420 (fv_sg rfl rfl rfl) d_MO_copies_18 ?_
  refine lv_iload_n F.hx F.hb d_MO_copies_21 rfl (lv_at hl 2 rfl) ?_
  obtain ⟨⟨g5a, g5b⟩, hT⟩ := q_guard hT
  refine r_iald F hS (show 208 < 231 by decide) (show shK 208 = 0 from rfl) (show shN 208 = 23 from rfl) hx2 g5a g5b d_MO_copies_22 ?_
  have i6 := hS.rng 208 x2
  obtain ⟨⟨g7a, g7b⟩, hT⟩ := q_guard hT
  refine r_iast F hS (show 208 < 231 by decide) (show shK 208 = 0 from rfl) (show shN 208 = 23 from rfl) hx1 i6 g7a g7b d_MO_copies_23 (fun H locs hS => ?_)
  obtain ⟨M8, eM8⟩ : ∃ q, q = (setI M4 208 x1 (M4.1 208 x2)) := ⟨_, rfl⟩
  replace hS : St b C n M8 s H locs := by rw [eM8]; exact hS
  replace hT := qlet_eq hT eM8
  refine lv_aload_n F.hx F.hb d_MO_copies_24 rfl (lv_at hl 0 rfl) ?_
  refine r_get (v := .ref (b + 209)) (N := 68) (T := T1) (j := 32) F hS (show 191 < 231 by decide) (show shK 191 = 5 from rfl) (show shN 191 = 68 from rfl) rfl (Nat.le_of_ble_eq_true rfl) ing1 mw_1421 (fv_sg rfl rfl rfl) d_MO_copies_25 ?_
  refine lv_iload_n F.hx F.hb d_MO_copies_28 rfl (lv_at hl 1 rfl) ?_
  refine lv_aload_n F.hx F.hb d_MO_copies_29 rfl (lv_at hl 0 rfl) ?_
  refine r_get (v := .ref (b + 209)) (N := 68) (T := T1) (j := 32) F hS (show 191 < 231 by decide) (show shK 191 = 5 from rfl) (show shN 191 = 68 from rfl) rfl (Nat.le_of_ble_eq_true rfl) ing1 mw_1421 (fv_sg rfl rfl rfl) d_MO_copies_30 ?_
  refine lv_iload_n F.hx F.hb d_MO_copies_33 rfl (lv_at hl 2 rfl) ?_
  obtain ⟨⟨g9a, g9b⟩, hT⟩ := q_guard hT
  refine r_iald F hS (show 209 < 231 by decide) (show shK 209 = 0 from rfl) (show shN 209 = 23 from rfl) hx2 g9a g9b d_MO_copies_34 ?_
  have i10 := hS.rng 209 x2
  obtain ⟨⟨g11a, g11b⟩, hT⟩ := q_guard hT
  refine r_iast F hS (show 209 < 231 by decide) (show shK 209 = 0 from rfl) (show shN 209 = 23 from rfl) hx1 i10 g11a g11b d_MO_copies_35 (fun H locs hS => ?_)
  obtain ⟨M12, eM12⟩ : ∃ q, q = (setI M8 209 x1 (M8.1 209 x2)) := ⟨_, rfl⟩
  replace hS : St b C n M12 s H locs := by rw [eM12]; exact hS
  replace hT := qlet_eq hT eM12
  refine lv_aload_n F.hx F.hb d_MO_copies_36 rfl (lv_at hl 0 rfl) ?_
  refine r_get (v := .ref (b + 210)) (N := 68) (T := T1) (j := 33) F hS (show 191 < 231 by decide) (show shK 191 = 5 from rfl) (show shN 191 = 68 from rfl) rfl (Nat.le_of_ble_eq_true rfl) ing1 mw_1422 (fv_sg rfl rfl rfl) d_MO_copies_37 ?_
  refine lv_iload_n F.hx F.hb d_MO_copies_40 rfl (lv_at hl 1 rfl) ?_
  refine lv_aload_n F.hx F.hb d_MO_copies_41 rfl (lv_at hl 0 rfl) ?_
  refine r_get (v := .ref (b + 210)) (N := 68) (T := T1) (j := 33) F hS (show 191 < 231 by decide) (show shK 191 = 5 from rfl) (show shN 191 = 68 from rfl) rfl (Nat.le_of_ble_eq_true rfl) ing1 mw_1422 (fv_sg rfl rfl rfl) d_MO_copies_42 ?_
  refine lv_iload_n F.hx F.hb d_MO_copies_45 rfl (lv_at hl 2 rfl) ?_
  obtain ⟨⟨g13a, g13b⟩, hT⟩ := q_guard hT
  refine r_lald F hS (show 210 < 231 by decide) (show shK 210 = 2 from rfl) (show shN 210 = 23 from rfl) hx2 g13a g13b d_MO_copies_46 ?_
  obtain ⟨⟨g14a, g14b⟩, hT⟩ := q_guard hT
  refine r_last F hS (show 210 < 231 by decide) (show shK 210 = 2 from rfl) (show shN 210 = 23 from rfl) hx1 g14a g14b d_MO_copies_47 (fun H locs hS => ?_)
  obtain ⟨M15, eM15⟩ : ∃ q, q = (setL M12 210 x1 (M12.2 210 x2)) := ⟨_, rfl⟩
  replace hS : St b C n M15 s H locs := by rw [eM15]; exact hS
  replace hT := qlet_eq hT eM15
  refine lv_aload_n F.hx F.hb d_MO_copies_48 rfl (lv_at hl 0 rfl) ?_
  refine r_get (v := .ref (b + 211)) (N := 68) (T := T1) (j := 34) F hS (show 191 < 231 by decide) (show shK 191 = 5 from rfl) (show shN 191 = 68 from rfl) rfl (Nat.le_of_ble_eq_true rfl) ing1 mw_1423 (fv_sg rfl rfl rfl) d_MO_copies_49 ?_
  refine lv_iload_n F.hx F.hb d_MO_copies_52 rfl (lv_at hl 1 rfl) ?_
  refine lv_aload_n F.hx F.hb d_MO_copies_53 rfl (lv_at hl 0 rfl) ?_
  refine r_get (v := .ref (b + 211)) (N := 68) (T := T1) (j := 34) F hS (show 191 < 231 by decide) (show shK 191 = 5 from rfl) (show shN 191 = 68 from rfl) rfl (Nat.le_of_ble_eq_true rfl) ing1 mw_1423 (fv_sg rfl rfl rfl) d_MO_copies_54 ?_
  refine lv_iload_n F.hx F.hb d_MO_copies_57 rfl (lv_at hl 2 rfl) ?_
  obtain ⟨⟨g16a, g16b⟩, hT⟩ := q_guard hT
  refine r_lald F hS (show 211 < 231 by decide) (show shK 211 = 2 from rfl) (show shN 211 = 23 from rfl) hx2 g16a g16b d_MO_copies_58 ?_
  obtain ⟨⟨g17a, g17b⟩, hT⟩ := q_guard hT
  refine r_last F hS (show 211 < 231 by decide) (show shK 211 = 2 from rfl) (show shN 211 = 23 from rfl) hx1 g17a g17b d_MO_copies_59 (fun H locs hS => ?_)
  obtain ⟨M18, eM18⟩ : ∃ q, q = (setL M15 211 x1 (M15.2 211 x2)) := ⟨_, rfl⟩
  replace hS : St b C n M18 s H locs := by rw [eM18]; exact hS
  replace hT := qlet_eq hT eM18
  refine r_iconst F.hx F.hb d_MO_copies_60 ?_
  refine lv_istore_n (lv' := [(3, vI 0), (0, .ref (b + 191)), (1, vI x1), (2, vI x2)]) F.hx F.hb d_MO_copies_61 rfl hl (Nat.le_of_ble_eq_true rfl) rfl (fun ls hl => ?_)
  exact k_MO_copies_L62 l hlo x1 x2 hx1 hx2 F hlk hr FU M18 0 (inr_c rfl) _ _ _ hS (lv_sub hl [1, 2, 3, 0] rfl) hT
theorem d_MO_copiesLog_0 : decode b_MO_copiesLog 0 = .ok (.iconst 0, 1) := dc_3 (by decide +kernel)
theorem d_MO_copiesLog_1 : decode b_MO_copiesLog 1 = .ok (.istore_n 3, 1) := dc_62 (by decide +kernel)
theorem d_MO_copiesLog_2 : decode b_MO_copiesLog 2 = .ok (.iload_n 3, 1) := dc_29 (by decide +kernel)
theorem d_MO_copiesLog_3 : decode b_MO_copiesLog 3 = .ok (.bipush 100, 2) := dc_16 (by decide +kernel)
theorem d_MO_copiesLog_5 : decode b_MO_copiesLog 5 = .ok (.if_icmp .ge 75, 3) := dc_162 (by decide +kernel)
theorem d_MO_copiesLog_8 : decode b_MO_copiesLog 8 = .ok (.aload_n 0, 1) := dc_42 (by decide +kernel)
theorem d_MO_copiesLog_9 : decode b_MO_copiesLog 9 = .ok (.getfield 88, 3) := dc_180 (by decide +kernel)
theorem d_MO_copiesLog_12 : decode b_MO_copiesLog 12 = .ok (.bipush 100, 2) := dc_16 (by decide +kernel)
theorem d_MO_copiesLog_14 : decode b_MO_copiesLog 14 = .ok (.iload_n 1, 1) := dc_27 (by decide +kernel)
theorem d_MO_copiesLog_15 : decode b_MO_copiesLog 15 = .ok (.imul, 1) := dc_104 (by decide +kernel)
theorem d_MO_copiesLog_16 : decode b_MO_copiesLog 16 = .ok (.iload_n 3, 1) := dc_29 (by decide +kernel)
theorem d_MO_copiesLog_17 : decode b_MO_copiesLog 17 = .ok (.iadd, 1) := dc_96 (by decide +kernel)
theorem d_MO_copiesLog_18 : decode b_MO_copiesLog 18 = .ok (.aload_n 0, 1) := dc_42 (by decide +kernel)
theorem d_MO_copiesLog_19 : decode b_MO_copiesLog 19 = .ok (.getfield 88, 3) := dc_180 (by decide +kernel)
theorem d_MO_copiesLog_22 : decode b_MO_copiesLog 22 = .ok (.bipush 100, 2) := dc_16 (by decide +kernel)
theorem d_MO_copiesLog_24 : decode b_MO_copiesLog 24 = .ok (.iload_n 2, 1) := dc_28 (by decide +kernel)
theorem d_MO_copiesLog_25 : decode b_MO_copiesLog 25 = .ok (.imul, 1) := dc_104 (by decide +kernel)
theorem d_MO_copiesLog_26 : decode b_MO_copiesLog 26 = .ok (.iload_n 3, 1) := dc_29 (by decide +kernel)
theorem d_MO_copiesLog_27 : decode b_MO_copiesLog 27 = .ok (.iadd, 1) := dc_96 (by decide +kernel)
theorem d_MO_copiesLog_28 : decode b_MO_copiesLog 28 = .ok (.iaload, 1) := dc_46 (by decide +kernel)
theorem d_MO_copiesLog_29 : decode b_MO_copiesLog 29 = .ok (.iastore, 1) := dc_79 (by decide +kernel)
theorem d_MO_copiesLog_30 : decode b_MO_copiesLog 30 = .ok (.aload_n 0, 1) := dc_42 (by decide +kernel)
theorem d_MO_copiesLog_31 : decode b_MO_copiesLog 31 = .ok (.getfield 91, 3) := dc_180 (by decide +kernel)
theorem d_MO_copiesLog_34 : decode b_MO_copiesLog 34 = .ok (.bipush 100, 2) := dc_16 (by decide +kernel)
theorem d_MO_copiesLog_36 : decode b_MO_copiesLog 36 = .ok (.iload_n 1, 1) := dc_27 (by decide +kernel)
theorem d_MO_copiesLog_37 : decode b_MO_copiesLog 37 = .ok (.imul, 1) := dc_104 (by decide +kernel)
theorem d_MO_copiesLog_38 : decode b_MO_copiesLog 38 = .ok (.iload_n 3, 1) := dc_29 (by decide +kernel)
theorem d_MO_copiesLog_39 : decode b_MO_copiesLog 39 = .ok (.iadd, 1) := dc_96 (by decide +kernel)
theorem d_MO_copiesLog_40 : decode b_MO_copiesLog 40 = .ok (.aload_n 0, 1) := dc_42 (by decide +kernel)
theorem d_MO_copiesLog_41 : decode b_MO_copiesLog 41 = .ok (.getfield 91, 3) := dc_180 (by decide +kernel)
theorem d_MO_copiesLog_44 : decode b_MO_copiesLog 44 = .ok (.bipush 100, 2) := dc_16 (by decide +kernel)
theorem d_MO_copiesLog_46 : decode b_MO_copiesLog 46 = .ok (.iload_n 2, 1) := dc_28 (by decide +kernel)
theorem d_MO_copiesLog_47 : decode b_MO_copiesLog 47 = .ok (.imul, 1) := dc_104 (by decide +kernel)
theorem d_MO_copiesLog_48 : decode b_MO_copiesLog 48 = .ok (.iload_n 3, 1) := dc_29 (by decide +kernel)
theorem d_MO_copiesLog_49 : decode b_MO_copiesLog 49 = .ok (.iadd, 1) := dc_96 (by decide +kernel)
theorem d_MO_copiesLog_50 : decode b_MO_copiesLog 50 = .ok (.iaload, 1) := dc_46 (by decide +kernel)
theorem d_MO_copiesLog_51 : decode b_MO_copiesLog 51 = .ok (.iastore, 1) := dc_79 (by decide +kernel)
theorem d_MO_copiesLog_52 : decode b_MO_copiesLog 52 = .ok (.aload_n 0, 1) := dc_42 (by decide +kernel)
theorem d_MO_copiesLog_53 : decode b_MO_copiesLog 53 = .ok (.getfield 94, 3) := dc_180 (by decide +kernel)
theorem d_MO_copiesLog_56 : decode b_MO_copiesLog 56 = .ok (.bipush 100, 2) := dc_16 (by decide +kernel)
theorem d_MO_copiesLog_58 : decode b_MO_copiesLog 58 = .ok (.iload_n 1, 1) := dc_27 (by decide +kernel)
theorem d_MO_copiesLog_59 : decode b_MO_copiesLog 59 = .ok (.imul, 1) := dc_104 (by decide +kernel)
theorem d_MO_copiesLog_60 : decode b_MO_copiesLog 60 = .ok (.iload_n 3, 1) := dc_29 (by decide +kernel)
theorem d_MO_copiesLog_61 : decode b_MO_copiesLog 61 = .ok (.iadd, 1) := dc_96 (by decide +kernel)
theorem d_MO_copiesLog_62 : decode b_MO_copiesLog 62 = .ok (.aload_n 0, 1) := dc_42 (by decide +kernel)
theorem d_MO_copiesLog_63 : decode b_MO_copiesLog 63 = .ok (.getfield 94, 3) := dc_180 (by decide +kernel)
theorem d_MO_copiesLog_66 : decode b_MO_copiesLog 66 = .ok (.bipush 100, 2) := dc_16 (by decide +kernel)
theorem d_MO_copiesLog_68 : decode b_MO_copiesLog 68 = .ok (.iload_n 2, 1) := dc_28 (by decide +kernel)
theorem d_MO_copiesLog_69 : decode b_MO_copiesLog 69 = .ok (.imul, 1) := dc_104 (by decide +kernel)
theorem d_MO_copiesLog_70 : decode b_MO_copiesLog 70 = .ok (.iload_n 3, 1) := dc_29 (by decide +kernel)
theorem d_MO_copiesLog_71 : decode b_MO_copiesLog 71 = .ok (.iadd, 1) := dc_96 (by decide +kernel)
theorem d_MO_copiesLog_72 : decode b_MO_copiesLog 72 = .ok (.iaload, 1) := dc_46 (by decide +kernel)
theorem d_MO_copiesLog_73 : decode b_MO_copiesLog 73 = .ok (.iastore, 1) := dc_79 (by decide +kernel)
theorem d_MO_copiesLog_74 : decode b_MO_copiesLog 74 = .ok (.iinc 3 1, 3) := dc_132 (by decide +kernel)
theorem d_MO_copiesLog_77 : decode b_MO_copiesLog 77 = .ok (.goto (-75), 3) := dc_167 (by decide +kernel)
theorem d_MO_copiesLog_80 : decode b_MO_copiesLog 80 = .ok (.return_, 1) := dc_177 (by decide +kernel)
def t_MO_copiesLog_L2 (x1 : Int) (x2 : Int)  : Nat → Mem → Int → Option (Mem)
  | 0, _, _ => none
  | fu + 1, M, v3_ => (if 100 ≤ v3_ then (some M) else (qguard (0 ≤ (w32 ((w32 (100 * x2)) + v3_)) ∧ (w32 ((w32 (100 * x2)) + v3_)) < 300) (qguard (0 ≤ (w32 ((w32 (100 * x1)) + v3_)) ∧ (w32 ((w32 (100 * x1)) + v3_)) < 300) (qlet (setI M 216 (w32 ((w32 (100 * x1)) + v3_)) (M.1 216 (w32 ((w32 (100 * x2)) + v3_)))) fun M5 => (qguard (0 ≤ (w32 ((w32 (100 * x2)) + v3_)) ∧ (w32 ((w32 (100 * x2)) + v3_)) < 300) (qguard (0 ≤ (w32 ((w32 (100 * x1)) + v3_)) ∧ (w32 ((w32 (100 * x1)) + v3_)) < 300) (qlet (setI M5 217 (w32 ((w32 (100 * x1)) + v3_)) (M5.1 217 (w32 ((w32 (100 * x2)) + v3_)))) fun M9 => (qguard (0 ≤ (w32 ((w32 (100 * x2)) + v3_)) ∧ (w32 ((w32 (100 * x2)) + v3_)) < 300) (qguard (0 ≤ (w32 ((w32 (100 * x1)) + v3_)) ∧ (w32 ((w32 (100 * x1)) + v3_)) < 300) (qlet (setI M9 218 (w32 ((w32 (100 * x1)) + v3_)) (M9.1 218 (w32 ((w32 (100 * x2)) + v3_)))) fun M13 => (t_MO_copiesLog_L2 x1 x2 fu M13 (w32 (v3_ + 1)))))))))))))
def t_MO_copiesLog (M : Mem) (x1 : Int) (x2 : Int) : Option (Mem) := (t_MO_copiesLog_L2 x1 x2 FU M 0)
set_option maxHeartbeats 4000000 in
set_option maxRecDepth 100000 in
theorem k_MO_copiesLog_L2 (l : Launch) {p : Program} {e : Env} {s : State} {m : MethodId} {below : List Frame} {meth : Method} {c : Code} {b n : Nat} {C : CT} (hlo : 231 ≤ n) (x1 : Int) (x2 : Int) (hx1 : InR x1) (hx2 : InR x2) (F : Cx b p m c b_MO_copiesLog 4 s ([.ref (b + 191), vI x1, vI x2] : List Value).toArray "WardFallsModel" C n 231) (hlk : meth.locks = false) (hr : meth.sig.returnType = none) {res : Mem} : ∀ (fu : Nat) (M : Mem) (v3_ : Int) (hv3_ : InR v3_) (H : Heap) (locs : List Loc) (ls : Array Slot), St b C n M s H locs → lv_has ls 4 [(0, .ref (b + 191)), (1, vI x1), (2, vI x2), (3, vI v3_)] → t_MO_copiesLog_L2 x1 x2 fu M v3_ = some res → W p l e (headSpec (wsM y_MO_copiesLog b_MO_copiesLog 4 (none)) (rmD 0)).room s m ([.ref (b + 191), vI x1, vI x2] : List Value).toArray below meth c H locs 0 0 (MQ below (QV b C n res) ([.ref (b + 191), vI x1, vI x2] : List Value).toArray s 0 0 (frb b)) (F0 m 2 ls []) := by
  intro fu
  induction fu with
  | zero => intro M v3_ hv3_ H locs ls hS hl hT; exact absurd hT (by simp [t_MO_copiesLog_L2])
  | succ fu ih =>
    intro M v3_ hv3_ H locs ls hS hl hT
    rw [t_MO_copiesLog_L2] at hT
    refine lv_iload_n F.hx F.hb d_MO_copiesLog_2 rfl (lv_at hl 3 rfl) ?_
    refine r_bipush F.hx F.hb d_MO_copiesLog_3 rfl ?_
    refine r_icmp_ge (tgt := 80) F.hx F.hb hv3_ (inr_c rfl) d_MO_copiesLog_5 (by decide) (fun c1 => ?_) (fun c1 => ?_)
    · replace hT := (if_pos c1).symm.trans hT
      cases hT
      exact r_vret F hlk hr hS d_MO_copiesLog_80
    · replace hT := (if_neg c1).symm.trans hT
      refine lv_aload_n F.hx F.hb d_MO_copiesLog_8 rfl (lv_at hl 0 rfl) ?_
      refine r_get (v := .ref (b + 216)) (N := 68) (T := T1) (j := 39) F hS (show 191 < 231 by decide) (show shK 191 = 5 from rfl) (show shN 191 = 68 from rfl) rfl (Nat.le_of_ble_eq_true rfl) ing1 mw_1428 (fv_sg rfl rfl rfl) d_MO_copiesLog_9 ?_
      refine r_bipush F.hx F.hb d_MO_copiesLog_12 rfl ?_
      refine lv_iload_n F.hx F.hb d_MO_copiesLog_14 rfl (lv_at hl 1 rfl) ?_
      refine r_imul F.hx F.hb d_MO_copiesLog_15 ?_
      refine lv_iload_n F.hx F.hb d_MO_copiesLog_16 rfl (lv_at hl 3 rfl) ?_
      refine r_iadd F.hx F.hb d_MO_copiesLog_17 ?_
      refine lv_aload_n F.hx F.hb d_MO_copiesLog_18 rfl (lv_at hl 0 rfl) ?_
      refine r_get (v := .ref (b + 216)) (N := 68) (T := T1) (j := 39) F hS (show 191 < 231 by decide) (show shK 191 = 5 from rfl) (show shN 191 = 68 from rfl) rfl (Nat.le_of_ble_eq_true rfl) ing1 mw_1428 (fv_sg rfl rfl rfl) d_MO_copiesLog_19 ?_
      refine r_bipush F.hx F.hb d_MO_copiesLog_22 rfl ?_
      refine lv_iload_n F.hx F.hb d_MO_copiesLog_24 rfl (lv_at hl 2 rfl) ?_
      refine r_imul F.hx F.hb d_MO_copiesLog_25 ?_
      refine lv_iload_n F.hx F.hb d_MO_copiesLog_26 rfl (lv_at hl 3 rfl) ?_
      refine r_iadd F.hx F.hb d_MO_copiesLog_27 ?_
      obtain ⟨⟨g2a, g2b⟩, hT⟩ := q_guard hT
      refine r_iald F hS (show 216 < 231 by decide) (show shK 216 = 0 from rfl) (show shN 216 = 300 from rfl) (inr_w32 _) g2a g2b d_MO_copiesLog_28 ?_
      have i3 := hS.rng 216 (w32 ((w32 (100 * x2)) + v3_))
      obtain ⟨⟨g4a, g4b⟩, hT⟩ := q_guard hT
      refine r_iast F hS (show 216 < 231 by decide) (show shK 216 = 0 from rfl) (show shN 216 = 300 from rfl) (inr_w32 _) i3 g4a g4b d_MO_copiesLog_29 (fun H locs hS => ?_)
      obtain ⟨M5, eM5⟩ : ∃ q, q = (setI M 216 (w32 ((w32 (100 * x1)) + v3_)) (M.1 216 (w32 ((w32 (100 * x2)) + v3_)))) := ⟨_, rfl⟩
      replace hS : St b C n M5 s H locs := by rw [eM5]; exact hS
      replace hT := qlet_eq hT eM5
      refine lv_aload_n F.hx F.hb d_MO_copiesLog_30 rfl (lv_at hl 0 rfl) ?_
      refine r_get (v := .ref (b + 217)) (N := 68) (T := T1) (j := 40) F hS (show 191 < 231 by decide) (show shK 191 = 5 from rfl) (show shN 191 = 68 from rfl) rfl (Nat.le_of_ble_eq_true rfl) ing1 mw_1429 (fv_sg rfl rfl rfl) d_MO_copiesLog_31 ?_
      refine r_bipush F.hx F.hb d_MO_copiesLog_34 rfl ?_
      refine lv_iload_n F.hx F.hb d_MO_copiesLog_36 rfl (lv_at hl 1 rfl) ?_
      refine r_imul F.hx F.hb d_MO_copiesLog_37 ?_
      refine lv_iload_n F.hx F.hb d_MO_copiesLog_38 rfl (lv_at hl 3 rfl) ?_
      refine r_iadd F.hx F.hb d_MO_copiesLog_39 ?_
      refine lv_aload_n F.hx F.hb d_MO_copiesLog_40 rfl (lv_at hl 0 rfl) ?_
      refine r_get (v := .ref (b + 217)) (N := 68) (T := T1) (j := 40) F hS (show 191 < 231 by decide) (show shK 191 = 5 from rfl) (show shN 191 = 68 from rfl) rfl (Nat.le_of_ble_eq_true rfl) ing1 mw_1429 (fv_sg rfl rfl rfl) d_MO_copiesLog_41 ?_
      refine r_bipush F.hx F.hb d_MO_copiesLog_44 rfl ?_
      refine lv_iload_n F.hx F.hb d_MO_copiesLog_46 rfl (lv_at hl 2 rfl) ?_
      refine r_imul F.hx F.hb d_MO_copiesLog_47 ?_
      refine lv_iload_n F.hx F.hb d_MO_copiesLog_48 rfl (lv_at hl 3 rfl) ?_
      refine r_iadd F.hx F.hb d_MO_copiesLog_49 ?_
      obtain ⟨⟨g6a, g6b⟩, hT⟩ := q_guard hT
      refine r_iald F hS (show 217 < 231 by decide) (show shK 217 = 0 from rfl) (show shN 217 = 300 from rfl) (inr_w32 _) g6a g6b d_MO_copiesLog_50 ?_
      have i7 := hS.rng 217 (w32 ((w32 (100 * x2)) + v3_))
      obtain ⟨⟨g8a, g8b⟩, hT⟩ := q_guard hT
      refine r_iast F hS (show 217 < 231 by decide) (show shK 217 = 0 from rfl) (show shN 217 = 300 from rfl) (inr_w32 _) i7 g8a g8b d_MO_copiesLog_51 (fun H locs hS => ?_)
      obtain ⟨M9, eM9⟩ : ∃ q, q = (setI M5 217 (w32 ((w32 (100 * x1)) + v3_)) (M5.1 217 (w32 ((w32 (100 * x2)) + v3_)))) := ⟨_, rfl⟩
      replace hS : St b C n M9 s H locs := by rw [eM9]; exact hS
      replace hT := qlet_eq hT eM9
      refine lv_aload_n F.hx F.hb d_MO_copiesLog_52 rfl (lv_at hl 0 rfl) ?_
      refine r_get (v := .ref (b + 218)) (N := 68) (T := T1) (j := 41) F hS (show 191 < 231 by decide) (show shK 191 = 5 from rfl) (show shN 191 = 68 from rfl) rfl (Nat.le_of_ble_eq_true rfl) ing1 mw_1430 (fv_sg rfl rfl rfl) d_MO_copiesLog_53 ?_
      refine r_bipush F.hx F.hb d_MO_copiesLog_56 rfl ?_
      refine lv_iload_n F.hx F.hb d_MO_copiesLog_58 rfl (lv_at hl 1 rfl) ?_
      refine r_imul F.hx F.hb d_MO_copiesLog_59 ?_
      refine lv_iload_n F.hx F.hb d_MO_copiesLog_60 rfl (lv_at hl 3 rfl) ?_
      refine r_iadd F.hx F.hb d_MO_copiesLog_61 ?_
      refine lv_aload_n F.hx F.hb d_MO_copiesLog_62 rfl (lv_at hl 0 rfl) ?_
      refine r_get (v := .ref (b + 218)) (N := 68) (T := T1) (j := 41) F hS (show 191 < 231 by decide) (show shK 191 = 5 from rfl) (show shN 191 = 68 from rfl) rfl (Nat.le_of_ble_eq_true rfl) ing1 mw_1430 (fv_sg rfl rfl rfl) d_MO_copiesLog_63 ?_
      refine r_bipush F.hx F.hb d_MO_copiesLog_66 rfl ?_
      refine lv_iload_n F.hx F.hb d_MO_copiesLog_68 rfl (lv_at hl 2 rfl) ?_
      refine r_imul F.hx F.hb d_MO_copiesLog_69 ?_
      refine lv_iload_n F.hx F.hb d_MO_copiesLog_70 rfl (lv_at hl 3 rfl) ?_
      refine r_iadd F.hx F.hb d_MO_copiesLog_71 ?_
      obtain ⟨⟨g10a, g10b⟩, hT⟩ := q_guard hT
      refine r_iald F hS (show 218 < 231 by decide) (show shK 218 = 0 from rfl) (show shN 218 = 300 from rfl) (inr_w32 _) g10a g10b d_MO_copiesLog_72 ?_
      have i11 := hS.rng 218 (w32 ((w32 (100 * x2)) + v3_))
      obtain ⟨⟨g12a, g12b⟩, hT⟩ := q_guard hT
      refine r_iast F hS (show 218 < 231 by decide) (show shK 218 = 0 from rfl) (show shN 218 = 300 from rfl) (inr_w32 _) i11 g12a g12b d_MO_copiesLog_73 (fun H locs hS => ?_)
      obtain ⟨M13, eM13⟩ : ∃ q, q = (setI M9 218 (w32 ((w32 (100 * x1)) + v3_)) (M9.1 218 (w32 ((w32 (100 * x2)) + v3_)))) := ⟨_, rfl⟩
      replace hS : St b C n M13 s H locs := by rw [eM13]; exact hS
      replace hT := qlet_eq hT eM13
      refine lv_iinc (v := Int32.ofInt (w32 (v3_ + 1))) (lv' := [(3, vI (w32 (v3_ + 1))), (0, .ref (b + 191)), (1, vI x1), (2, vI x2)]) F.hx F.hb d_MO_copiesLog_74 hl (k := 3) rfl (q_of_add _ _) (Nat.le_of_ble_eq_true rfl) rfl (fun ls hl => ?_)
      refine lv_goto (tgt := 2) F.hx F.hb d_MO_copiesLog_77 (by decide) ?_
      exact ih M13 (w32 (v3_ + 1)) (inr_w32 _) _ _ _ hS (lv_sub hl [1, 2, 3, 0] rfl) hT
set_option maxHeartbeats 4000000 in
set_option maxRecDepth 100000 in
theorem c_MO_copiesLog (l : Launch) {b n : Nat} {C : CT} (hlo : 231 ≤ n) (M : Mem) (x1 : Int) (x2 : Int) (hx1 : InR x1) (hx2 : InR x2) (res : Mem) (hT : t_MO_copiesLog M x1 x2 = some res) : CM l b C n 0 y_MO_copiesLog b_MO_copiesLog 4 (none) [.ref (b + 191), vI x1, vI x2] M (QV b C n res) := by
  refine CM.of (lo := 231) (ow := "WardFallsModel") (by decide) rfl (Nat.le_of_ble_eq_true rfl) hlo (fun p e s m below meth c F hlk hr hS ls hl => ?_)
  have hl : lv_has ls 4 [(0, .ref (b + 191)), (1, vI x1), (2, vI x2)] := hl
  unfold t_MO_copiesLog at hT
  refine r_iconst F.hx F.hb d_MO_copiesLog_0 ?_
  refine lv_istore_n (lv' := [(3, vI 0), (0, .ref (b + 191)), (1, vI x1), (2, vI x2)]) F.hx F.hb d_MO_copiesLog_1 rfl hl (Nat.le_of_ble_eq_true rfl) rfl (fun ls hl => ?_)
  exact k_MO_copiesLog_L2 l hlo x1 x2 hx1 hx2 F hlk hr FU M 0 (inr_c rfl) _ _ _ hS (lv_sub hl [1, 2, 3, 0] rfl) hT
theorem d_MO_cells_0 : decode b_MO_cells 0 = .ok (.aload_n 0, 1) := dc_42 (by decide +kernel)
theorem d_MO_cells_1 : decode b_MO_cells 1 = .ok (.getfield 13, 3) := dc_180 (by decide +kernel)
theorem d_MO_cells_4 : decode b_MO_cells 4 = .ok (.iconst 0, 1) := dc_3 (by decide +kernel)
theorem d_MO_cells_5 : decode b_MO_cells 5 = .ok (.iaload, 1) := dc_46 (by decide +kernel)
theorem d_MO_cells_6 : decode b_MO_cells 6 = .ok (.aload_n 0, 1) := dc_42 (by decide +kernel)
theorem d_MO_cells_7 : decode b_MO_cells 7 = .ok (.getfield 13, 3) := dc_180 (by decide +kernel)
theorem d_MO_cells_10 : decode b_MO_cells 10 = .ok (.iconst 1, 1) := dc_4 (by decide +kernel)
theorem d_MO_cells_11 : decode b_MO_cells 11 = .ok (.iaload, 1) := dc_46 (by decide +kernel)
theorem d_MO_cells_12 : decode b_MO_cells 12 = .ok (.imul, 1) := dc_104 (by decide +kernel)
theorem d_MO_cells_13 : decode b_MO_cells 13 = .ok (.ireturn, 1) := dc_172 (by decide +kernel)
def t_MO_cells (M : Mem)  : Int := (w32 ((M.1 193 0) * (M.1 193 1)))
set_option maxHeartbeats 4000000 in
set_option maxRecDepth 100000 in
theorem c_MO_cells (l : Launch) {b n : Nat} {C : CT} (hlo : 231 ≤ n) (M : Mem)   (res : Int) (hT : t_MO_cells M  = res) : CM l b C n 0 y_MO_cells b_MO_cells 1 (some .int) [.ref (b + 191)] M (QI b C n M res) := by
  refine CM.of (lo := 231) (ow := "WardFallsModel") (by decide) rfl (Nat.le_of_ble_eq_true rfl) hlo (fun p e s m below meth c F hlk hr hS ls hl => ?_)
  have hl : lv_has ls 1 [(0, .ref (b + 191))] := hl
  unfold t_MO_cells at hT
  refine lv_aload_n F.hx F.hb d_MO_cells_0 rfl (lv_at hl 0 rfl) ?_
  refine r_get (v := .ref (b + 193)) (N := 68) (T := T1) (j := 3) F hS (show 191 < 231 by decide) (show shK 191 = 5 from rfl) (show shN 191 = 68 from rfl) rfl (Nat.le_of_ble_eq_true rfl) ing1 mw_1392 (fv_sg rfl rfl rfl) d_MO_cells_1 ?_
  refine r_iconst F.hx F.hb d_MO_cells_4 ?_
  refine r_iald F hS (show 193 < 231 by decide) (show shK 193 = 0 from rfl) (show shN 193 = 18 from rfl) (inr_c rfl) (by omega) (by omega) d_MO_cells_5 ?_
  have i1 := hS.rng 193 0
  refine lv_aload_n F.hx F.hb d_MO_cells_6 rfl (lv_at hl 0 rfl) ?_
  refine r_get (v := .ref (b + 193)) (N := 68) (T := T1) (j := 3) F hS (show 191 < 231 by decide) (show shK 191 = 5 from rfl) (show shN 191 = 68 from rfl) rfl (Nat.le_of_ble_eq_true rfl) ing1 mw_1392 (fv_sg rfl rfl rfl) d_MO_cells_7 ?_
  refine r_iconst F.hx F.hb d_MO_cells_10 ?_
  refine r_iald F hS (show 193 < 231 by decide) (show shK 193 = 0 from rfl) (show shN 193 = 18 from rfl) (inr_c rfl) (by omega) (by omega) d_MO_cells_11 ?_
  have i2 := hS.rng 193 1
  refine r_imul F.hx F.hb d_MO_cells_12 ?_
  subst hT
  exact r_iret F hlk hr rfl hS (inr_w32 _) d_MO_cells_13
theorem d_MO_isCell_0 : decode b_MO_isCell 0 = .ok (.iload_n 1, 1) := dc_27 (by decide +kernel)
theorem d_MO_isCell_1 : decode b_MO_isCell 1 = .ok (.ifCond .lt 15, 3) := dc_155 (by decide +kernel)
theorem d_MO_isCell_4 : decode b_MO_isCell 4 = .ok (.iload_n 1, 1) := dc_27 (by decide +kernel)
theorem d_MO_isCell_5 : decode b_MO_isCell 5 = .ok (.aload_n 0, 1) := dc_42 (by decide +kernel)
theorem d_MO_isCell_6 : decode b_MO_isCell 6 = .ok (.invokevirtual 329, 3) := dc_182 (by decide +kernel)
theorem d_MO_isCell_9 : decode b_MO_isCell 9 = .ok (.if_icmp .ge 7, 3) := dc_162 (by decide +kernel)
theorem d_MO_isCell_12 : decode b_MO_isCell 12 = .ok (.iconst 1, 1) := dc_4 (by decide +kernel)
theorem d_MO_isCell_13 : decode b_MO_isCell 13 = .ok (.goto 4, 3) := dc_167 (by decide +kernel)
theorem d_MO_isCell_16 : decode b_MO_isCell 16 = .ok (.iconst 0, 1) := dc_3 (by decide +kernel)
theorem d_MO_isCell_17 : decode b_MO_isCell 17 = .ok (.ireturn, 1) := dc_172 (by decide +kernel)
def t_MO_isCell (M : Mem) (x1 : Int) : Int := (if x1 < 0 then 0 else (qlet (t_MO_cells M) fun q2 => (if q2 ≤ x1 then 0 else 1)))
set_option maxHeartbeats 4000000 in
set_option maxRecDepth 100000 in
theorem c_MO_isCell (l : Launch) {b n : Nat} {C : CT} (hlo : 231 ≤ n) (M : Mem) (x1 : Int) (hx1 : InR x1) (res : Int) (hT : t_MO_isCell M x1 = res) : CM l b C n 1 y_MO_isCell b_MO_isCell 2 (some .boolean) [.ref (b + 191), vI x1] M (QZ b C n M res) := by
  refine CM.of (lo := 231) (ow := "WardFallsModel") (by decide) rfl (Nat.le_of_ble_eq_true rfl) hlo (fun p e s m below meth c F hlk hr hS ls hl => ?_)
  have hl : lv_has ls 2 [(0, .ref (b + 191)), (1, vI x1)] := hl
  unfold t_MO_isCell at hT
  refine lv_iload_n F.hx F.hb d_MO_isCell_0 rfl (lv_at hl 1 rfl) ?_
  refine r_if_lt (tgt := 16) F.hx F.hb hx1 d_MO_isCell_1 (by decide) (fun c1 => ?_) (fun c1 => ?_)
  · replace hT := (if_pos c1).symm.trans hT
    refine r_iconst F.hx F.hb d_MO_isCell_16 ?_
    subst hT
    exact r_zret F hlk hr hS (Or.inl rfl) d_MO_isCell_17
  · replace hT := (if_neg c1).symm.trans hT
    refine lv_iload_n F.hx F.hb d_MO_isCell_4 rfl (lv_at hl 1 rfl) ?_
    refine lv_aload_n F.hx F.hb d_MO_isCell_5 rfl (lv_at hl 0 rfl) ?_
    obtain ⟨q2, hq2⟩ : ∃ q, q = (t_MO_cells M) := ⟨_, rfl⟩
    replace hT := qlet_eq hT hq2
    refine r_backI F hS (r_runV (k := 191) (N := 68) (T := T1) (As := []) F hS (show 191 < 231 by decide) (show shK 191 = 5 from rfl) rfl (c_MO_cells l F.2.2.1 M _ hq2.symm) gs_MO_329 hd_MO_cells ⟨Nat.le_of_ble_eq_true rfl, Nat.le_of_ble_eq_true rfl⟩ rfl hl.1 (Nat.le_of_ble_eq_true rfl) ⟨Nat.zero_le _, Nat.zero_le _⟩ rfl d_MO_isCell_6) (fun H locs hS h3 => ?_)
    refine r_icmp_ge (tgt := 16) F.hx F.hb hx1 h3 d_MO_isCell_9 (by decide) (fun c4 => ?_) (fun c4 => ?_)
    · replace hT := (if_pos c4).symm.trans hT
      refine r_iconst F.hx F.hb d_MO_isCell_16 ?_
      subst hT
      exact r_zret F hlk hr hS (Or.inl rfl) d_MO_isCell_17
    · replace hT := (if_neg c4).symm.trans hT
      refine r_iconst F.hx F.hb d_MO_isCell_12 ?_
      refine lv_goto (tgt := 17) F.hx F.hb d_MO_isCell_13 (by decide) ?_
      subst hT
      exact r_zret F hlk hr hS (Or.inr rfl) d_MO_isCell_17
theorem d_MO_isOpen_0 : decode b_MO_isOpen 0 = .ok (.aload_n 0, 1) := dc_42 (by decide +kernel)
theorem d_MO_isOpen_1 : decode b_MO_isOpen 1 = .ok (.iload_n 1, 1) := dc_27 (by decide +kernel)
theorem d_MO_isOpen_2 : decode b_MO_isOpen 2 = .ok (.invokevirtual 332, 3) := dc_182 (by decide +kernel)
theorem d_MO_isOpen_5 : decode b_MO_isOpen 5 = .ok (.ifCond .eq 16, 3) := dc_153 (by decide +kernel)
theorem d_MO_isOpen_8 : decode b_MO_isOpen 8 = .ok (.aload_n 0, 1) := dc_42 (by decide +kernel)
theorem d_MO_isOpen_9 : decode b_MO_isOpen 9 = .ok (.getfield 28, 3) := dc_180 (by decide +kernel)
theorem d_MO_isOpen_12 : decode b_MO_isOpen 12 = .ok (.iload_n 1, 1) := dc_27 (by decide +kernel)
theorem d_MO_isOpen_13 : decode b_MO_isOpen 13 = .ok (.baload, 1) := dc_51 (by decide +kernel)
theorem d_MO_isOpen_14 : decode b_MO_isOpen 14 = .ok (.ifCond .ne 7, 3) := dc_154 (by decide +kernel)
theorem d_MO_isOpen_17 : decode b_MO_isOpen 17 = .ok (.iconst 1, 1) := dc_4 (by decide +kernel)
theorem d_MO_isOpen_18 : decode b_MO_isOpen 18 = .ok (.goto 4, 3) := dc_167 (by decide +kernel)
theorem d_MO_isOpen_21 : decode b_MO_isOpen 21 = .ok (.iconst 0, 1) := dc_3 (by decide +kernel)
theorem d_MO_isOpen_22 : decode b_MO_isOpen 22 = .ok (.ireturn, 1) := dc_172 (by decide +kernel)
def t_MO_isOpen (M : Mem) (x1 : Int) : Option (Int) := (qlet (t_MO_isCell M x1) fun q1 => (if q1 = 0 then (some 0) else (qguard (0 ≤ x1 ∧ x1 < 96) (if (M.1 198 x1) = 0 then (some 1) else (some 0)))))
set_option maxHeartbeats 4000000 in
set_option maxRecDepth 100000 in
theorem c_MO_isOpen (l : Launch) {b n : Nat} {C : CT} (hlo : 231 ≤ n) (M : Mem) (x1 : Int) (hx1 : InR x1) (res : Int) (hT : t_MO_isOpen M x1 = some res) : CM l b C n 2 y_MO_isOpen b_MO_isOpen 2 (some .boolean) [.ref (b + 191), vI x1] M (QZ b C n M res) := by
  refine CM.of (lo := 231) (ow := "WardFallsModel") (by decide) rfl (Nat.le_of_ble_eq_true rfl) hlo (fun p e s m below meth c F hlk hr hS ls hl => ?_)
  have hl : lv_has ls 2 [(0, .ref (b + 191)), (1, vI x1)] := hl
  unfold t_MO_isOpen at hT
  refine lv_aload_n F.hx F.hb d_MO_isOpen_0 rfl (lv_at hl 0 rfl) ?_
  refine lv_iload_n F.hx F.hb d_MO_isOpen_1 rfl (lv_at hl 1 rfl) ?_
  obtain ⟨q1, hq1⟩ : ∃ q, q = (t_MO_isCell M x1) := ⟨_, rfl⟩
  replace hT := qlet_eq hT hq1
  refine r_backZ F hS (r_runV (k := 191) (N := 68) (T := T1) (As := [vI x1]) F hS (show 191 < 231 by decide) (show shK 191 = 5 from rfl) rfl (c_MO_isCell l F.2.2.1 M x1 hx1 _ hq1.symm) gs_MO_332 hd_MO_isCell ⟨Nat.le_of_ble_eq_true rfl, Nat.le_of_ble_eq_true rfl⟩ rfl hl.1 (Nat.le_of_ble_eq_true rfl) ⟨Nat.zero_le _, Nat.zero_le _⟩ rfl d_MO_isOpen_2) (fun H locs hS h2 => ?_)
  refine r_if_eq (tgt := 21) F.hx F.hb (inr_z h2) d_MO_isOpen_5 (by decide) (fun c3 => ?_) (fun c3 => ?_)
  · replace hT := (if_pos c3).symm.trans hT
    refine r_iconst F.hx F.hb d_MO_isOpen_21 ?_
    cases hT
    exact r_zret F hlk hr hS (Or.inl rfl) d_MO_isOpen_22
  · replace hT := (if_neg c3).symm.trans hT
    refine lv_aload_n F.hx F.hb d_MO_isOpen_8 rfl (lv_at hl 0 rfl) ?_
    refine r_get (v := .ref (b + 198)) (N := 68) (T := T1) (j := 8) F hS (show 191 < 231 by decide) (show shK 191 = 5 from rfl) (show shN 191 = 68 from rfl) rfl (Nat.le_of_ble_eq_true rfl) ing1 mw_1397 (fv_sg rfl rfl rfl) d_MO_isOpen_9 ?_
    refine lv_iload_n F.hx F.hb d_MO_isOpen_12 rfl (lv_at hl 1 rfl) ?_
    obtain ⟨⟨g4a, g4b⟩, hT⟩ := q_guard hT
    have z5 := hS.bool (show shK 198 = 1 from rfl) x1
    refine r_zald F hS (show 198 < 231 by decide) (show shK 198 = 1 from rfl) (show shN 198 = 96 from rfl) hx1 g4a g4b d_MO_isOpen_13 ?_
    refine r_if_ne (tgt := 21) F.hx F.hb (inr_z z5) d_MO_isOpen_14 (by decide) (fun c6 => ?_) (fun c6 => ?_)
    · replace hT := (if_neg c6).symm.trans hT
      refine r_iconst F.hx F.hb d_MO_isOpen_21 ?_
      cases hT
      exact r_zret F hlk hr hS (Or.inl rfl) d_MO_isOpen_22
    · replace hT := (if_pos c6).symm.trans hT
      refine r_iconst F.hx F.hb d_MO_isOpen_17 ?_
      refine lv_goto (tgt := 22) F.hx F.hb d_MO_isOpen_18 (by decide) ?_
      cases hT
      exact r_zret F hlk hr hS (Or.inr rfl) d_MO_isOpen_22
theorem d_MO_isWard_0 : decode b_MO_isWard 0 = .ok (.iload_n 1, 1) := dc_27 (by decide +kernel)
theorem d_MO_isWard_1 : decode b_MO_isWard 1 = .ok (.ifCond .lt 17, 3) := dc_155 (by decide +kernel)
theorem d_MO_isWard_4 : decode b_MO_isWard 4 = .ok (.iload_n 1, 1) := dc_27 (by decide +kernel)
theorem d_MO_isWard_5 : decode b_MO_isWard 5 = .ok (.aload_n 0, 1) := dc_42 (by decide +kernel)
theorem d_MO_isWard_6 : decode b_MO_isWard 6 = .ok (.getfield 13, 3) := dc_180 (by decide +kernel)
theorem d_MO_isWard_9 : decode b_MO_isWard 9 = .ok (.iconst 2, 1) := dc_5 (by decide +kernel)
theorem d_MO_isWard_10 : decode b_MO_isWard 10 = .ok (.iaload, 1) := dc_46 (by decide +kernel)
theorem d_MO_isWard_11 : decode b_MO_isWard 11 = .ok (.if_icmp .ge 7, 3) := dc_162 (by decide +kernel)
theorem d_MO_isWard_14 : decode b_MO_isWard 14 = .ok (.iconst 1, 1) := dc_4 (by decide +kernel)
theorem d_MO_isWard_15 : decode b_MO_isWard 15 = .ok (.goto 4, 3) := dc_167 (by decide +kernel)
theorem d_MO_isWard_18 : decode b_MO_isWard 18 = .ok (.iconst 0, 1) := dc_3 (by decide +kernel)
theorem d_MO_isWard_19 : decode b_MO_isWard 19 = .ok (.ireturn, 1) := dc_172 (by decide +kernel)
def t_MO_isWard (M : Mem) (x1 : Int) : Int := (if x1 < 0 then 0 else (if (M.1 193 2) ≤ x1 then 0 else 1))
set_option maxHeartbeats 4000000 in
set_option maxRecDepth 100000 in
theorem c_MO_isWard (l : Launch) {b n : Nat} {C : CT} (hlo : 231 ≤ n) (M : Mem) (x1 : Int) (hx1 : InR x1) (res : Int) (hT : t_MO_isWard M x1 = res) : CM l b C n 0 y_MO_isWard b_MO_isWard 2 (some .boolean) [.ref (b + 191), vI x1] M (QZ b C n M res) := by
  refine CM.of (lo := 231) (ow := "WardFallsModel") (by decide) rfl (Nat.le_of_ble_eq_true rfl) hlo (fun p e s m below meth c F hlk hr hS ls hl => ?_)
  have hl : lv_has ls 2 [(0, .ref (b + 191)), (1, vI x1)] := hl
  unfold t_MO_isWard at hT
  refine lv_iload_n F.hx F.hb d_MO_isWard_0 rfl (lv_at hl 1 rfl) ?_
  refine r_if_lt (tgt := 18) F.hx F.hb hx1 d_MO_isWard_1 (by decide) (fun c1 => ?_) (fun c1 => ?_)
  · replace hT := (if_pos c1).symm.trans hT
    refine r_iconst F.hx F.hb d_MO_isWard_18 ?_
    subst hT
    exact r_zret F hlk hr hS (Or.inl rfl) d_MO_isWard_19
  · replace hT := (if_neg c1).symm.trans hT
    refine lv_iload_n F.hx F.hb d_MO_isWard_4 rfl (lv_at hl 1 rfl) ?_
    refine lv_aload_n F.hx F.hb d_MO_isWard_5 rfl (lv_at hl 0 rfl) ?_
    refine r_get (v := .ref (b + 193)) (N := 68) (T := T1) (j := 3) F hS (show 191 < 231 by decide) (show shK 191 = 5 from rfl) (show shN 191 = 68 from rfl) rfl (Nat.le_of_ble_eq_true rfl) ing1 mw_1392 (fv_sg rfl rfl rfl) d_MO_isWard_6 ?_
    refine r_iconst F.hx F.hb d_MO_isWard_9 ?_
    refine r_iald F hS (show 193 < 231 by decide) (show shK 193 = 0 from rfl) (show shN 193 = 18 from rfl) (inr_c rfl) (by omega) (by omega) d_MO_isWard_10 ?_
    have i2 := hS.rng 193 2
    refine r_icmp_ge (tgt := 18) F.hx F.hb hx1 i2 d_MO_isWard_11 (by decide) (fun c3 => ?_) (fun c3 => ?_)
    · replace hT := (if_pos c3).symm.trans hT
      refine r_iconst F.hx F.hb d_MO_isWard_18 ?_
      subst hT
      exact r_zret F hlk hr hS (Or.inl rfl) d_MO_isWard_19
    · replace hT := (if_neg c3).symm.trans hT
      refine r_iconst F.hx F.hb d_MO_isWard_14 ?_
      refine lv_goto (tgt := 19) F.hx F.hb d_MO_isWard_15 (by decide) ?_
      subst hT
      exact r_zret F hlk hr hS (Or.inr rfl) d_MO_isWard_19
theorem d_MO_isThing_0 : decode b_MO_isThing 0 = .ok (.iload_n 1, 1) := dc_27 (by decide +kernel)
theorem d_MO_isThing_1 : decode b_MO_isThing 1 = .ok (.ifCond .lt 18, 3) := dc_155 (by decide +kernel)
theorem d_MO_isThing_4 : decode b_MO_isThing 4 = .ok (.iload_n 1, 1) := dc_27 (by decide +kernel)
theorem d_MO_isThing_5 : decode b_MO_isThing 5 = .ok (.aload_n 0, 1) := dc_42 (by decide +kernel)
theorem d_MO_isThing_6 : decode b_MO_isThing 6 = .ok (.getfield 13, 3) := dc_180 (by decide +kernel)
theorem d_MO_isThing_9 : decode b_MO_isThing 9 = .ok (.bipush 6, 2) := dc_16 (by decide +kernel)
theorem d_MO_isThing_11 : decode b_MO_isThing 11 = .ok (.iaload, 1) := dc_46 (by decide +kernel)
theorem d_MO_isThing_12 : decode b_MO_isThing 12 = .ok (.if_icmp .ge 7, 3) := dc_162 (by decide +kernel)
theorem d_MO_isThing_15 : decode b_MO_isThing 15 = .ok (.iconst 1, 1) := dc_4 (by decide +kernel)
theorem d_MO_isThing_16 : decode b_MO_isThing 16 = .ok (.goto 4, 3) := dc_167 (by decide +kernel)
theorem d_MO_isThing_19 : decode b_MO_isThing 19 = .ok (.iconst 0, 1) := dc_3 (by decide +kernel)
theorem d_MO_isThing_20 : decode b_MO_isThing 20 = .ok (.ireturn, 1) := dc_172 (by decide +kernel)
def t_MO_isThing (M : Mem) (x1 : Int) : Int := (if x1 < 0 then 0 else (if (M.1 193 6) ≤ x1 then 0 else 1))
set_option maxHeartbeats 4000000 in
set_option maxRecDepth 100000 in
theorem c_MO_isThing (l : Launch) {b n : Nat} {C : CT} (hlo : 231 ≤ n) (M : Mem) (x1 : Int) (hx1 : InR x1) (res : Int) (hT : t_MO_isThing M x1 = res) : CM l b C n 0 y_MO_isThing b_MO_isThing 2 (some .boolean) [.ref (b + 191), vI x1] M (QZ b C n M res) := by
  refine CM.of (lo := 231) (ow := "WardFallsModel") (by decide) rfl (Nat.le_of_ble_eq_true rfl) hlo (fun p e s m below meth c F hlk hr hS ls hl => ?_)
  have hl : lv_has ls 2 [(0, .ref (b + 191)), (1, vI x1)] := hl
  unfold t_MO_isThing at hT
  refine lv_iload_n F.hx F.hb d_MO_isThing_0 rfl (lv_at hl 1 rfl) ?_
  refine r_if_lt (tgt := 19) F.hx F.hb hx1 d_MO_isThing_1 (by decide) (fun c1 => ?_) (fun c1 => ?_)
  · replace hT := (if_pos c1).symm.trans hT
    refine r_iconst F.hx F.hb d_MO_isThing_19 ?_
    subst hT
    exact r_zret F hlk hr hS (Or.inl rfl) d_MO_isThing_20
  · replace hT := (if_neg c1).symm.trans hT
    refine lv_iload_n F.hx F.hb d_MO_isThing_4 rfl (lv_at hl 1 rfl) ?_
    refine lv_aload_n F.hx F.hb d_MO_isThing_5 rfl (lv_at hl 0 rfl) ?_
    refine r_get (v := .ref (b + 193)) (N := 68) (T := T1) (j := 3) F hS (show 191 < 231 by decide) (show shK 191 = 5 from rfl) (show shN 191 = 68 from rfl) rfl (Nat.le_of_ble_eq_true rfl) ing1 mw_1392 (fv_sg rfl rfl rfl) d_MO_isThing_6 ?_
    refine r_bipush F.hx F.hb d_MO_isThing_9 rfl ?_
    refine r_iald F hS (show 193 < 231 by decide) (show shK 193 = 0 from rfl) (show shN 193 = 18 from rfl) (inr_c rfl) (by omega) (by omega) d_MO_isThing_11 ?_
    have i2 := hS.rng 193 6
    refine r_icmp_ge (tgt := 19) F.hx F.hb hx1 i2 d_MO_isThing_12 (by decide) (fun c3 => ?_) (fun c3 => ?_)
    · replace hT := (if_pos c3).symm.trans hT
      refine r_iconst F.hx F.hb d_MO_isThing_19 ?_
      subst hT
      exact r_zret F hlk hr hS (Or.inl rfl) d_MO_isThing_20
    · replace hT := (if_neg c3).symm.trans hT
      refine r_iconst F.hx F.hb d_MO_isThing_15 ?_
      refine lv_goto (tgt := 20) F.hx F.hb d_MO_isThing_16 (by decide) ?_
      subst hT
      exact r_zret F hlk hr hS (Or.inr rfl) d_MO_isThing_20
