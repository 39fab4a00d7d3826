theorem wn_Laws_pushFrom_0 : ∀ i, i < 96 → bA b_Laws_pushFrom (0 + i) = wB [43, 29, 21, 4, 182, 0, 113, 54, 6, 21, 6, 155, 0, 28, 44, 180, 0, 117, 29, 184, 0, 121, 4, 159, 0, 16, 44, 180, 0, 117, 21, 6, 184, 0, 121, 4, 160, 0, 7, 20, 0, 100, 173, 43, 21, 6, 182, 0, 64, 54, 7, 44, 43, 21, 6, 182, 0, 125, 54, 8, 44, 43, 29, 182, 0, 129, 54, 9, 42, 16, 18, 21, 7, 156, 0, 7, 9, 167, 0, 13, 43, 180, 0, 76, 21, 7, 184, 0, 52, 133, 182, 0, 79, 42, 16, 19] i := wB_of (by decide +kernel)
theorem d_Laws_pushFrom_0 : decode b_Laws_pushFrom 0 = .ok (.aload_n 1, 1) := dc_43 (q0_win (r := 0) wn_Laws_pushFrom_0 (by decide +kernel))
theorem d_Laws_pushFrom_1 : decode b_Laws_pushFrom 1 = .ok (.iload_n 3, 1) := dc_29 (q0_win (r := 1) wn_Laws_pushFrom_0 (by decide +kernel))
theorem d_Laws_pushFrom_2 : decode b_Laws_pushFrom 2 = .ok (.iload 4, 2) := dc_21 (qU1_win (r := 2) wn_Laws_pushFrom_0 (by decide +kernel))
theorem d_Laws_pushFrom_4 : decode b_Laws_pushFrom 4 = .ok (.invokevirtual 113, 3) := dc_182 (qU2_win (r := 4) wn_Laws_pushFrom_0 (by decide +kernel))
theorem d_Laws_pushFrom_7 : decode b_Laws_pushFrom 7 = .ok (.istore 6, 2) := dc_54 (qU1_win (r := 7) wn_Laws_pushFrom_0 (by decide +kernel))
theorem d_Laws_pushFrom_9 : decode b_Laws_pushFrom 9 = .ok (.iload 6, 2) := dc_21 (qU1_win (r := 9) wn_Laws_pushFrom_0 (by decide +kernel))
theorem d_Laws_pushFrom_11 : decode b_Laws_pushFrom 11 = .ok (.ifCond .lt 28, 3) := dc_155 (qS2_win (r := 11) wn_Laws_pushFrom_0 (by decide +kernel))
theorem d_Laws_pushFrom_14 : decode b_Laws_pushFrom 14 = .ok (.aload_n 2, 1) := dc_44 (q0_win (r := 14) wn_Laws_pushFrom_0 (by decide +kernel))
theorem d_Laws_pushFrom_15 : decode b_Laws_pushFrom 15 = .ok (.getfield 117, 3) := dc_180 (qU2_win (r := 15) wn_Laws_pushFrom_0 (by decide +kernel))
theorem d_Laws_pushFrom_18 : decode b_Laws_pushFrom 18 = .ok (.iload_n 3, 1) := dc_29 (q0_win (r := 18) wn_Laws_pushFrom_0 (by decide +kernel))
theorem d_Laws_pushFrom_19 : decode b_Laws_pushFrom 19 = .ok (.invokestatic 121, 3) := dc_184 (qU2_win (r := 19) wn_Laws_pushFrom_0 (by decide +kernel))
theorem d_Laws_pushFrom_22 : decode b_Laws_pushFrom 22 = .ok (.iconst 1, 1) := dc_4 (q0_win (r := 22) wn_Laws_pushFrom_0 (by decide +kernel))
theorem d_Laws_pushFrom_23 : decode b_Laws_pushFrom 23 = .ok (.if_icmp .eq 16, 3) := dc_159 (qS2_win (r := 23) wn_Laws_pushFrom_0 (by decide +kernel))
theorem d_Laws_pushFrom_26 : decode b_Laws_pushFrom 26 = .ok (.aload_n 2, 1) := dc_44 (q0_win (r := 26) wn_Laws_pushFrom_0 (by decide +kernel))
theorem d_Laws_pushFrom_27 : decode b_Laws_pushFrom 27 = .ok (.getfield 117, 3) := dc_180 (qU2_win (r := 27) wn_Laws_pushFrom_0 (by decide +kernel))
theorem d_Laws_pushFrom_30 : decode b_Laws_pushFrom 30 = .ok (.iload 6, 2) := dc_21 (qU1_win (r := 30) wn_Laws_pushFrom_0 (by decide +kernel))
theorem d_Laws_pushFrom_32 : decode b_Laws_pushFrom 32 = .ok (.invokestatic 121, 3) := dc_184 (qU2_win (r := 32) wn_Laws_pushFrom_0 (by decide +kernel))
theorem d_Laws_pushFrom_35 : decode b_Laws_pushFrom 35 = .ok (.iconst 1, 1) := dc_4 (q0_win (r := 35) wn_Laws_pushFrom_0 (by decide +kernel))
theorem d_Laws_pushFrom_36 : decode b_Laws_pushFrom 36 = .ok (.if_icmp .ne 7, 3) := dc_160 (qS2_win (r := 36) wn_Laws_pushFrom_0 (by decide +kernel))
theorem d_Laws_pushFrom_39 : decode b_Laws_pushFrom 39 = .ok (.ldc2_w 100, 3) := dc_20 (qU2_win (r := 39) wn_Laws_pushFrom_0 (by decide +kernel))
theorem d_Laws_pushFrom_42 : decode b_Laws_pushFrom 42 = .ok (.lreturn, 1) := dc_173 (q0_win (r := 42) wn_Laws_pushFrom_0 (by decide +kernel))
theorem d_Laws_pushFrom_43 : decode b_Laws_pushFrom 43 = .ok (.aload_n 1, 1) := dc_43 (q0_win (r := 43) wn_Laws_pushFrom_0 (by decide +kernel))
theorem d_Laws_pushFrom_44 : decode b_Laws_pushFrom 44 = .ok (.iload 6, 2) := dc_21 (qU1_win (r := 44) wn_Laws_pushFrom_0 (by decide +kernel))
theorem d_Laws_pushFrom_46 : decode b_Laws_pushFrom 46 = .ok (.invokevirtual 64, 3) := dc_182 (qU2_win (r := 46) wn_Laws_pushFrom_0 (by decide +kernel))
theorem d_Laws_pushFrom_49 : decode b_Laws_pushFrom 49 = .ok (.istore 7, 2) := dc_54 (qU1_win (r := 49) wn_Laws_pushFrom_0 (by decide +kernel))
theorem d_Laws_pushFrom_51 : decode b_Laws_pushFrom 51 = .ok (.aload_n 2, 1) := dc_44 (q0_win (r := 51) wn_Laws_pushFrom_0 (by decide +kernel))
theorem d_Laws_pushFrom_52 : decode b_Laws_pushFrom 52 = .ok (.aload_n 1, 1) := dc_43 (q0_win (r := 52) wn_Laws_pushFrom_0 (by decide +kernel))
theorem d_Laws_pushFrom_53 : decode b_Laws_pushFrom 53 = .ok (.iload 6, 2) := dc_21 (qU1_win (r := 53) wn_Laws_pushFrom_0 (by decide +kernel))
theorem d_Laws_pushFrom_55 : decode b_Laws_pushFrom 55 = .ok (.invokevirtual 125, 3) := dc_182 (qU2_win (r := 55) wn_Laws_pushFrom_0 (by decide +kernel))
theorem d_Laws_pushFrom_58 : decode b_Laws_pushFrom 58 = .ok (.istore 8, 2) := dc_54 (qU1_win (r := 58) wn_Laws_pushFrom_0 (by decide +kernel))
theorem d_Laws_pushFrom_60 : decode b_Laws_pushFrom 60 = .ok (.aload_n 2, 1) := dc_44 (q0_win (r := 60) wn_Laws_pushFrom_0 (by decide +kernel))
theorem d_Laws_pushFrom_61 : decode b_Laws_pushFrom 61 = .ok (.aload_n 1, 1) := dc_43 (q0_win (r := 61) wn_Laws_pushFrom_0 (by decide +kernel))
theorem d_Laws_pushFrom_62 : decode b_Laws_pushFrom 62 = .ok (.iload_n 3, 1) := dc_29 (q0_win (r := 62) wn_Laws_pushFrom_0 (by decide +kernel))
theorem d_Laws_pushFrom_63 : decode b_Laws_pushFrom 63 = .ok (.invokevirtual 129, 3) := dc_182 (qU2_win (r := 63) wn_Laws_pushFrom_0 (by decide +kernel))
theorem d_Laws_pushFrom_66 : decode b_Laws_pushFrom 66 = .ok (.istore 9, 2) := dc_54 (qU1_win (r := 66) wn_Laws_pushFrom_0 (by decide +kernel))
theorem d_Laws_pushFrom_68 : decode b_Laws_pushFrom 68 = .ok (.aload_n 0, 1) := dc_42 (q0_win (r := 68) wn_Laws_pushFrom_0 (by decide +kernel))
theorem d_Laws_pushFrom_69 : decode b_Laws_pushFrom 69 = .ok (.bipush 18, 2) := dc_16 (qS1_win (r := 69) wn_Laws_pushFrom_0 (by decide +kernel))
theorem d_Laws_pushFrom_71 : decode b_Laws_pushFrom 71 = .ok (.iload 7, 2) := dc_21 (qU1_win (r := 71) wn_Laws_pushFrom_0 (by decide +kernel))
theorem d_Laws_pushFrom_73 : decode b_Laws_pushFrom 73 = .ok (.ifCond .ge 7, 3) := dc_156 (qS2_win (r := 73) wn_Laws_pushFrom_0 (by decide +kernel))
theorem d_Laws_pushFrom_76 : decode b_Laws_pushFrom 76 = .ok (.lconst 0, 1) := dc_9 (q0_win (r := 76) wn_Laws_pushFrom_0 (by decide +kernel))
theorem d_Laws_pushFrom_77 : decode b_Laws_pushFrom 77 = .ok (.goto 13, 3) := dc_167 (qS2_win (r := 77) wn_Laws_pushFrom_0 (by decide +kernel))
theorem d_Laws_pushFrom_80 : decode b_Laws_pushFrom 80 = .ok (.aload_n 1, 1) := dc_43 (q0_win (r := 80) wn_Laws_pushFrom_0 (by decide +kernel))
theorem d_Laws_pushFrom_81 : decode b_Laws_pushFrom 81 = .ok (.getfield 76, 3) := dc_180 (qU2_win (r := 81) wn_Laws_pushFrom_0 (by decide +kernel))
theorem d_Laws_pushFrom_84 : decode b_Laws_pushFrom 84 = .ok (.iload 7, 2) := dc_21 (qU1_win (r := 84) wn_Laws_pushFrom_0 (by decide +kernel))
theorem d_Laws_pushFrom_86 : decode b_Laws_pushFrom 86 = .ok (.invokestatic 52, 3) := dc_184 (qU2_win (r := 86) wn_Laws_pushFrom_0 (by decide +kernel))
theorem d_Laws_pushFrom_89 : decode b_Laws_pushFrom 89 = .ok (.i2l, 1) := dc_133 (q0_win (r := 89) wn_Laws_pushFrom_0 (by decide +kernel))
theorem d_Laws_pushFrom_90 : decode b_Laws_pushFrom 90 = .ok (.invokevirtual 79, 3) := dc_182 (qU2_win (r := 90) wn_Laws_pushFrom_0 (by decide +kernel))
theorem d_Laws_pushFrom_93 : decode b_Laws_pushFrom 93 = .ok (.aload_n 0, 1) := dc_42 (q0_win (r := 93) wn_Laws_pushFrom_0 (by decide +kernel))
theorem d_Laws_pushFrom_94 : decode b_Laws_pushFrom 94 = .ok (.bipush 19, 2) := dc_16 (qS1_win (r := 94) wn_Laws_pushFrom_0 (by decide +kernel))
theorem wn_Laws_pushFrom_96 : ∀ i, i < 96 → bA b_Laws_pushFrom (96 + i) = wB [21, 7, 156, 0, 7, 9, 167, 0, 13, 43, 180, 0, 83, 21, 7, 184, 0, 52, 133, 182, 0, 79, 42, 16, 20, 21, 8, 156, 0, 7, 9, 167, 0, 4, 10, 182, 0, 79, 42, 16, 21, 21, 8, 156, 0, 7, 9, 167, 0, 13, 43, 180, 0, 72, 21, 8, 184, 0, 52, 133, 182, 0, 79, 42, 16, 22, 43, 29, 21, 6, 182, 0, 132, 153, 0, 7, 10, 167, 0, 4, 9, 182, 0, 79, 42, 16, 23, 21, 9, 7, 159, 0, 18, 21, 9, 5] i := wB_of (by decide +kernel)
theorem d_Laws_pushFrom_96 : decode b_Laws_pushFrom 96 = .ok (.iload 7, 2) := dc_21 (qU1_win (r := 0) wn_Laws_pushFrom_96 (by decide +kernel))
theorem d_Laws_pushFrom_98 : decode b_Laws_pushFrom 98 = .ok (.ifCond .ge 7, 3) := dc_156 (qS2_win (r := 2) wn_Laws_pushFrom_96 (by decide +kernel))
theorem d_Laws_pushFrom_101 : decode b_Laws_pushFrom 101 = .ok (.lconst 0, 1) := dc_9 (q0_win (r := 5) wn_Laws_pushFrom_96 (by decide +kernel))
theorem d_Laws_pushFrom_102 : decode b_Laws_pushFrom 102 = .ok (.goto 13, 3) := dc_167 (qS2_win (r := 6) wn_Laws_pushFrom_96 (by decide +kernel))
theorem d_Laws_pushFrom_105 : decode b_Laws_pushFrom 105 = .ok (.aload_n 1, 1) := dc_43 (q0_win (r := 9) wn_Laws_pushFrom_96 (by decide +kernel))
theorem d_Laws_pushFrom_106 : decode b_Laws_pushFrom 106 = .ok (.getfield 83, 3) := dc_180 (qU2_win (r := 10) wn_Laws_pushFrom_96 (by decide +kernel))
theorem d_Laws_pushFrom_109 : decode b_Laws_pushFrom 109 = .ok (.iload 7, 2) := dc_21 (qU1_win (r := 13) wn_Laws_pushFrom_96 (by decide +kernel))
theorem d_Laws_pushFrom_111 : decode b_Laws_pushFrom 111 = .ok (.invokestatic 52, 3) := dc_184 (qU2_win (r := 15) wn_Laws_pushFrom_96 (by decide +kernel))
theorem d_Laws_pushFrom_114 : decode b_Laws_pushFrom 114 = .ok (.i2l, 1) := dc_133 (q0_win (r := 18) wn_Laws_pushFrom_96 (by decide +kernel))
theorem d_Laws_pushFrom_115 : decode b_Laws_pushFrom 115 = .ok (.invokevirtual 79, 3) := dc_182 (qU2_win (r := 19) wn_Laws_pushFrom_96 (by decide +kernel))
theorem d_Laws_pushFrom_118 : decode b_Laws_pushFrom 118 = .ok (.aload_n 0, 1) := dc_42 (q0_win (r := 22) wn_Laws_pushFrom_96 (by decide +kernel))
theorem d_Laws_pushFrom_119 : decode b_Laws_pushFrom 119 = .ok (.bipush 20, 2) := dc_16 (qS1_win (r := 23) wn_Laws_pushFrom_96 (by decide +kernel))
theorem d_Laws_pushFrom_121 : decode b_Laws_pushFrom 121 = .ok (.iload 8, 2) := dc_21 (qU1_win (r := 25) wn_Laws_pushFrom_96 (by decide +kernel))
theorem d_Laws_pushFrom_123 : decode b_Laws_pushFrom 123 = .ok (.ifCond .ge 7, 3) := dc_156 (qS2_win (r := 27) wn_Laws_pushFrom_96 (by decide +kernel))
theorem d_Laws_pushFrom_126 : decode b_Laws_pushFrom 126 = .ok (.lconst 0, 1) := dc_9 (q0_win (r := 30) wn_Laws_pushFrom_96 (by decide +kernel))
theorem d_Laws_pushFrom_127 : decode b_Laws_pushFrom 127 = .ok (.goto 4, 3) := dc_167 (qS2_win (r := 31) wn_Laws_pushFrom_96 (by decide +kernel))
theorem d_Laws_pushFrom_130 : decode b_Laws_pushFrom 130 = .ok (.lconst 1, 1) := dc_10 (q0_win (r := 34) wn_Laws_pushFrom_96 (by decide +kernel))
theorem d_Laws_pushFrom_131 : decode b_Laws_pushFrom 131 = .ok (.invokevirtual 79, 3) := dc_182 (qU2_win (r := 35) wn_Laws_pushFrom_96 (by decide +kernel))
theorem d_Laws_pushFrom_134 : decode b_Laws_pushFrom 134 = .ok (.aload_n 0, 1) := dc_42 (q0_win (r := 38) wn_Laws_pushFrom_96 (by decide +kernel))
theorem d_Laws_pushFrom_135 : decode b_Laws_pushFrom 135 = .ok (.bipush 21, 2) := dc_16 (qS1_win (r := 39) wn_Laws_pushFrom_96 (by decide +kernel))
theorem d_Laws_pushFrom_137 : decode b_Laws_pushFrom 137 = .ok (.iload 8, 2) := dc_21 (qU1_win (r := 41) wn_Laws_pushFrom_96 (by decide +kernel))
theorem d_Laws_pushFrom_139 : decode b_Laws_pushFrom 139 = .ok (.ifCond .ge 7, 3) := dc_156 (qS2_win (r := 43) wn_Laws_pushFrom_96 (by decide +kernel))
theorem d_Laws_pushFrom_142 : decode b_Laws_pushFrom 142 = .ok (.lconst 0, 1) := dc_9 (q0_win (r := 46) wn_Laws_pushFrom_96 (by decide +kernel))
theorem d_Laws_pushFrom_143 : decode b_Laws_pushFrom 143 = .ok (.goto 13, 3) := dc_167 (qS2_win (r := 47) wn_Laws_pushFrom_96 (by decide +kernel))
theorem d_Laws_pushFrom_146 : decode b_Laws_pushFrom 146 = .ok (.aload_n 1, 1) := dc_43 (q0_win (r := 50) wn_Laws_pushFrom_96 (by decide +kernel))
theorem d_Laws_pushFrom_147 : decode b_Laws_pushFrom 147 = .ok (.getfield 72, 3) := dc_180 (qU2_win (r := 51) wn_Laws_pushFrom_96 (by decide +kernel))
theorem d_Laws_pushFrom_150 : decode b_Laws_pushFrom 150 = .ok (.iload 8, 2) := dc_21 (qU1_win (r := 54) wn_Laws_pushFrom_96 (by decide +kernel))
theorem d_Laws_pushFrom_152 : decode b_Laws_pushFrom 152 = .ok (.invokestatic 52, 3) := dc_184 (qU2_win (r := 56) wn_Laws_pushFrom_96 (by decide +kernel))
theorem d_Laws_pushFrom_155 : decode b_Laws_pushFrom 155 = .ok (.i2l, 1) := dc_133 (q0_win (r := 59) wn_Laws_pushFrom_96 (by decide +kernel))
theorem d_Laws_pushFrom_156 : decode b_Laws_pushFrom 156 = .ok (.invokevirtual 79, 3) := dc_182 (qU2_win (r := 60) wn_Laws_pushFrom_96 (by decide +kernel))
theorem d_Laws_pushFrom_159 : decode b_Laws_pushFrom 159 = .ok (.aload_n 0, 1) := dc_42 (q0_win (r := 63) wn_Laws_pushFrom_96 (by decide +kernel))
theorem d_Laws_pushFrom_160 : decode b_Laws_pushFrom 160 = .ok (.bipush 22, 2) := dc_16 (qS1_win (r := 64) wn_Laws_pushFrom_96 (by decide +kernel))
theorem d_Laws_pushFrom_162 : decode b_Laws_pushFrom 162 = .ok (.aload_n 1, 1) := dc_43 (q0_win (r := 66) wn_Laws_pushFrom_96 (by decide +kernel))
theorem d_Laws_pushFrom_163 : decode b_Laws_pushFrom 163 = .ok (.iload_n 3, 1) := dc_29 (q0_win (r := 67) wn_Laws_pushFrom_96 (by decide +kernel))
theorem d_Laws_pushFrom_164 : decode b_Laws_pushFrom 164 = .ok (.iload 6, 2) := dc_21 (qU1_win (r := 68) wn_Laws_pushFrom_96 (by decide +kernel))
theorem d_Laws_pushFrom_166 : decode b_Laws_pushFrom 166 = .ok (.invokevirtual 132, 3) := dc_182 (qU2_win (r := 70) wn_Laws_pushFrom_96 (by decide +kernel))
theorem d_Laws_pushFrom_169 : decode b_Laws_pushFrom 169 = .ok (.ifCond .eq 7, 3) := dc_153 (qS2_win (r := 73) wn_Laws_pushFrom_96 (by decide +kernel))
theorem d_Laws_pushFrom_172 : decode b_Laws_pushFrom 172 = .ok (.lconst 1, 1) := dc_10 (q0_win (r := 76) wn_Laws_pushFrom_96 (by decide +kernel))
theorem d_Laws_pushFrom_173 : decode b_Laws_pushFrom 173 = .ok (.goto 4, 3) := dc_167 (qS2_win (r := 77) wn_Laws_pushFrom_96 (by decide +kernel))
theorem d_Laws_pushFrom_176 : decode b_Laws_pushFrom 176 = .ok (.lconst 0, 1) := dc_9 (q0_win (r := 80) wn_Laws_pushFrom_96 (by decide +kernel))
theorem d_Laws_pushFrom_177 : decode b_Laws_pushFrom 177 = .ok (.invokevirtual 79, 3) := dc_182 (qU2_win (r := 81) wn_Laws_pushFrom_96 (by decide +kernel))
theorem d_Laws_pushFrom_180 : decode b_Laws_pushFrom 180 = .ok (.aload_n 0, 1) := dc_42 (q0_win (r := 84) wn_Laws_pushFrom_96 (by decide +kernel))
theorem d_Laws_pushFrom_181 : decode b_Laws_pushFrom 181 = .ok (.bipush 23, 2) := dc_16 (qS1_win (r := 85) wn_Laws_pushFrom_96 (by decide +kernel))
theorem d_Laws_pushFrom_183 : decode b_Laws_pushFrom 183 = .ok (.iload 9, 2) := dc_21 (qU1_win (r := 87) wn_Laws_pushFrom_96 (by decide +kernel))
theorem d_Laws_pushFrom_185 : decode b_Laws_pushFrom 185 = .ok (.iconst 4, 1) := dc_7 (q0_win (r := 89) wn_Laws_pushFrom_96 (by decide +kernel))
theorem d_Laws_pushFrom_186 : decode b_Laws_pushFrom 186 = .ok (.if_icmp .eq 18, 3) := dc_159 (qS2_win (r := 90) wn_Laws_pushFrom_96 (by decide +kernel))
theorem d_Laws_pushFrom_189 : decode b_Laws_pushFrom 189 = .ok (.iload 9, 2) := dc_21 (qU1_win (r := 93) wn_Laws_pushFrom_96 (by decide +kernel))
theorem d_Laws_pushFrom_191 : decode b_Laws_pushFrom 191 = .ok (.iconst 2, 1) := dc_5 (q0_win (r := 95) wn_Laws_pushFrom_96 (by decide +kernel))
theorem wn_Laws_pushFrom_192 : ∀ i, i < 37 → bA b_Laws_pushFrom (192 + i) = wB [96, 7, 112, 21, 4, 160, 0, 7, 10, 167, 0, 4, 9, 182, 0, 79, 42, 16, 24, 21, 5, 133, 182, 0, 79, 43, 180, 0, 136, 42, 180, 0, 9, 182, 0, 90, 173] i := wB_of (by decide +kernel)
theorem d_Laws_pushFrom_192 : decode b_Laws_pushFrom 192 = .ok (.iadd, 1) := dc_96 (q0_win (r := 0) wn_Laws_pushFrom_192 (by decide +kernel))
theorem d_Laws_pushFrom_193 : decode b_Laws_pushFrom 193 = .ok (.iconst 4, 1) := dc_7 (q0_win (r := 1) wn_Laws_pushFrom_192 (by decide +kernel))
theorem d_Laws_pushFrom_194 : decode b_Laws_pushFrom 194 = .ok (.irem, 1) := dc_112 (q0_win (r := 2) wn_Laws_pushFrom_192 (by decide +kernel))
theorem d_Laws_pushFrom_195 : decode b_Laws_pushFrom 195 = .ok (.iload 4, 2) := dc_21 (qU1_win (r := 3) wn_Laws_pushFrom_192 (by decide +kernel))
theorem d_Laws_pushFrom_197 : decode b_Laws_pushFrom 197 = .ok (.if_icmp .ne 7, 3) := dc_160 (qS2_win (r := 5) wn_Laws_pushFrom_192 (by decide +kernel))
theorem d_Laws_pushFrom_200 : decode b_Laws_pushFrom 200 = .ok (.lconst 1, 1) := dc_10 (q0_win (r := 8) wn_Laws_pushFrom_192 (by decide +kernel))
theorem d_Laws_pushFrom_201 : decode b_Laws_pushFrom 201 = .ok (.goto 4, 3) := dc_167 (qS2_win (r := 9) wn_Laws_pushFrom_192 (by decide +kernel))
theorem d_Laws_pushFrom_204 : decode b_Laws_pushFrom 204 = .ok (.lconst 0, 1) := dc_9 (q0_win (r := 12) wn_Laws_pushFrom_192 (by decide +kernel))
theorem d_Laws_pushFrom_205 : decode b_Laws_pushFrom 205 = .ok (.invokevirtual 79, 3) := dc_182 (qU2_win (r := 13) wn_Laws_pushFrom_192 (by decide +kernel))
theorem d_Laws_pushFrom_208 : decode b_Laws_pushFrom 208 = .ok (.aload_n 0, 1) := dc_42 (q0_win (r := 16) wn_Laws_pushFrom_192 (by decide +kernel))
theorem d_Laws_pushFrom_209 : decode b_Laws_pushFrom 209 = .ok (.bipush 24, 2) := dc_16 (qS1_win (r := 17) wn_Laws_pushFrom_192 (by decide +kernel))
theorem d_Laws_pushFrom_211 : decode b_Laws_pushFrom 211 = .ok (.iload 5, 2) := dc_21 (qU1_win (r := 19) wn_Laws_pushFrom_192 (by decide +kernel))
theorem d_Laws_pushFrom_213 : decode b_Laws_pushFrom 213 = .ok (.i2l, 1) := dc_133 (q0_win (r := 21) wn_Laws_pushFrom_192 (by decide +kernel))
theorem d_Laws_pushFrom_214 : decode b_Laws_pushFrom 214 = .ok (.invokevirtual 79, 3) := dc_182 (qU2_win (r := 22) wn_Laws_pushFrom_192 (by decide +kernel))
theorem d_Laws_pushFrom_217 : decode b_Laws_pushFrom 217 = .ok (.aload_n 1, 1) := dc_43 (q0_win (r := 25) wn_Laws_pushFrom_192 (by decide +kernel))
theorem d_Laws_pushFrom_218 : decode b_Laws_pushFrom 218 = .ok (.getfield 136, 3) := dc_180 (qU2_win (r := 26) wn_Laws_pushFrom_192 (by decide +kernel))
theorem d_Laws_pushFrom_221 : decode b_Laws_pushFrom 221 = .ok (.aload_n 0, 1) := dc_42 (q0_win (r := 29) wn_Laws_pushFrom_192 (by decide +kernel))
theorem d_Laws_pushFrom_222 : decode b_Laws_pushFrom 222 = .ok (.getfield 9, 3) := dc_180 (qU2_win (r := 30) wn_Laws_pushFrom_192 (by decide +kernel))
theorem d_Laws_pushFrom_225 : decode b_Laws_pushFrom 225 = .ok (.invokevirtual 90, 3) := dc_182 (qU2_win (r := 33) wn_Laws_pushFrom_192 (by decide +kernel))
theorem d_Laws_pushFrom_228 : decode b_Laws_pushFrom 228 = .ok (.lreturn, 1) := dc_173 (q0_win (r := 36) wn_Laws_pushFrom_192 (by decide +kernel))
def t_Laws_pushFrom_L205 (k1 : Nat) (k2 : Nat) (x3 : Int) (x4 : Int) (x5 : Int)  (M : Mem) (v4_ : Int) (v5_ : Int64) : Option (Mem × Int64) := (qlet (t_Laws_name M v4_ v5_) fun q41 => (qlet (t_Laws_name q41 24 (q_i2l x5)) fun q43 => (obind (t_Formula_value q43 (k1 + 10) 178 7) fun q45 => (some ((q45.1), (q45.2))))))
def t_Laws_pushFrom_L204 (k1 : Nat) (k2 : Nat) (x3 : Int) (x4 : Int) (x5 : Int)  (M : Mem) (v4_ : Int) : Option (Mem × Int64) := (t_Laws_pushFrom_L205 k1 k2 x3 x4 x5 M v4_ 0)
def t_Laws_pushFrom_L177 (k1 : Nat) (k2 : Nat) (x3 : Int) (x4 : Int) (x5 : Int)  (M : Mem) (v4_ : Int) (v6_ : Int) (v7_ : Int64) : Option (Mem × Int64) := (qlet (t_Laws_name M v6_ v7_) fun q37 => (if v4_ = 4 then (t_Laws_pushFrom_L204 k1 k2 x3 x4 x5 q37 23) else (if (q_rem (w32 (v4_ + 2)) 4) = x4 then (t_Laws_pushFrom_L205 k1 k2 x3 x4 x5 q37 23 1) else (t_Laws_pushFrom_L204 k1 k2 x3 x4 x5 q37 23))))
def t_Laws_pushFrom_L156 (k1 : Nat) (k2 : Nat) (x3 : Int) (x4 : Int) (x5 : Int)  (M : Mem) (v5_ : Int) (v6_ : Int) (v8_ : Int) (v9_ : Int64) : Option (Mem × Int64) := (qlet (t_Laws_name M v8_ v9_) fun q32 => (qlet (t_Town_isLine q32 k1 x3 v5_) fun q34 => (if q34 = 0 then (t_Laws_pushFrom_L177 k1 k2 x3 x4 x5 q32 v6_ 22 0) else (t_Laws_pushFrom_L177 k1 k2 x3 x4 x5 q32 v6_ 22 1))))
def t_Laws_pushFrom_L131 (k1 : Nat) (k2 : Nat) (x3 : Int) (x4 : Int) (x5 : Int)  (M : Mem) (v5_ : Int) (v6_ : Int) (v7_ : Int) (v9_ : Int) (v10_ : Int64) : Option (Mem × Int64) := (qlet (t_Laws_name M v9_ v10_) fun q27 => (if 0 ≤ v6_ then (qlet (t_WF_look q27 (k1 + 6) 8 v6_) fun q30 => (t_Laws_pushFrom_L156 k1 k2 x3 x4 x5 q27 v5_ v7_ 21 (q_i2l q30))) else (t_Laws_pushFrom_L156 k1 k2 x3 x4 x5 q27 v5_ v7_ 21 0)))
def t_Laws_pushFrom_L115 (k1 : Nat) (k2 : Nat) (x3 : Int) (x4 : Int) (x5 : Int)  (M : Mem) (v5_ : Int) (v6_ : Int) (v7_ : Int) (v9_ : Int) (v10_ : Int64) : Option (Mem × Int64) := (qlet (t_Laws_name M v9_ v10_) fun q24 => (if 0 ≤ v6_ then (t_Laws_pushFrom_L131 k1 k2 x3 x4 x5 q24 v5_ v6_ v7_ 20 1) else (t_Laws_pushFrom_L131 k1 k2 x3 x4 x5 q24 v5_ v6_ v7_ 20 0)))
def t_Laws_pushFrom_L90 (k1 : Nat) (k2 : Nat) (x3 : Int) (x4 : Int) (x5 : Int)  (M : Mem) (v5_ : Int) (v6_ : Int) (v7_ : Int) (v8_ : Int) (v10_ : Int) (v11_ : Int64) : Option (Mem × Int64) := (qlet (t_Laws_name M v10_ v11_) fun q19 => (if 0 ≤ v6_ then (qlet (t_WF_look q19 (k1 + 4) 4 v6_) fun q22 => (t_Laws_pushFrom_L115 k1 k2 x3 x4 x5 q19 v5_ v7_ v8_ 19 (q_i2l q22))) else (t_Laws_pushFrom_L115 k1 k2 x3 x4 x5 q19 v5_ v7_ v8_ 19 0)))
def t_Laws_pushFrom (M : Mem) (k1 : Nat) (k2 : Nat) (x3 : Int) (x4 : Int) (x5 : Int) : Option (Mem × Int64) := (qlet (t_Town_beside M k1 x3 x4) fun q1 => (if q1 < 0 then (some (M, (-9223372036854775808))) else (qlet (t_WF_bitOf M (M.2 k2 4) x3) fun q4 => (if q4 = 1 then (some (M, (-9223372036854775808))) else (qlet (t_WF_bitOf M (M.2 k2 4) q1) fun q7 => (if q7 = 1 then (some (M, (-9223372036854775808))) else (qlet (t_Town_ownerOf M k1 q1) fun q10 => (obind (t_Scene_thingIn M k2 k1 q1) fun q12 => (qlet (t_Scene_downOf M k2 k1 x3) fun q14 => (if 0 ≤ q10 then (qlet (t_WF_look M (k1 + 3) 4 q10) fun q17 => (t_Laws_pushFrom_L90 k1 k2 x3 x4 x5 M q1 q10 q12 q14 18 (q_i2l q17))) else (t_Laws_pushFrom_L90 k1 k2 x3 x4 x5 M q1 q10 q12 q14 18 0)))))))))))
set_option maxHeartbeats 4000000 in
set_option maxRecDepth 100000 in
theorem k_Laws_pushFrom_L205 (l : Launch) {p : Program} {e : Env} {s : State} {m : MethodId} {below : List Frame} {meth : Method} {c : Code} {b n : Nat} {C : CT} (hlo : 191 ≤ n) (k1 : Nat) (k2 : Nat) (x3 : Int) (x4 : Int) (x5 : Int) (hk1 : isTown k1) (hk2 : isScene k2) (hx3 : InR x3) (hx4 : InR x4) (hx5 : InR x5) (F : Cx b p m c b_Laws_pushFrom 10 s ([.ref (b + 177), .ref (b + k1), .ref (b + k2), vI x3, vI x4, vI x5] : List Value).toArray "WardFalls$Laws" C n 191) (hlk : meth.locks = false) (hr : meth.sig.returnType = some .long) {res : Mem × Int64} (M : Mem) (v4_ : Int) (hv4_ : InR v4_) (v5_ : Int64) (H : Heap) (locs : List Loc) (ls : Array Slot) (hS : St b C n M s H locs) (hl : lv_has ls 10 [(0, .ref (b + 177)), (1, .ref (b + k1)), (5, vI x5)]) (hT : t_Laws_pushFrom_L205 k1 k2 x3 x4 x5 M v4_ v5_ = some res) : W p l e (headSpec (wsM y_Laws_pushFrom b_Laws_pushFrom 10 (some .long)) (rmD 4)).room s m ([.ref (b + 177), .ref (b + k1), .ref (b + k2), vI x3, vI x4, vI x5] : List Value).toArray below meth c H locs 0 0 (MQ below (QL b C n res.1 res.2) ([.ref (b + 177), .ref (b + k1), .ref (b + k2), vI x3, vI x4, vI x5] : List Value).toArray s 0 0 (frb b)) (F0 m 205 ls [.long v5_, vI v4_, .ref (b + 177)]) := by
  unfold t_Laws_pushFrom_L205 at hT
  obtain ⟨q41, hq41⟩ : ∃ q, q = (t_Laws_name M v4_ v5_) := ⟨_, rfl⟩
  replace hT := qlet_eq hT hq41
  refine r_backV F hS (r_runV (k := 177) (N := 9) (T := T4) (As := [vI v4_, .long v5_]) F hS (show 177 < 191 by decide) (show shK 177 = 8 from rfl) rfl (c_Laws_name l F.2.2.1 M v4_ v5_ hv4_ _ hq41.symm) gs_Laws_79 hd_Laws_name ⟨Nat.le_of_ble_eq_true rfl, Nat.le_of_ble_eq_true rfl⟩ rfl hl.1 (Nat.le_of_ble_eq_true rfl) ⟨Nat.zero_le _, Nat.zero_le _⟩ rfl d_Laws_pushFrom_205) (fun H locs hS => ?_)
  refine lv_aload_n F.hx F.hb d_Laws_pushFrom_208 rfl (lv_at hl 0 rfl) ?_
  refine r_bipush F.hx F.hb d_Laws_pushFrom_209 rfl ?_
  refine lv_iload F.hx F.hb d_Laws_pushFrom_211 (lv_at hl 2 rfl) ?_
  refine r_i2l F.hx F.hb d_Laws_pushFrom_213 ?_
  obtain ⟨q43, hq43⟩ : ∃ q, q = (t_Laws_name q41 24 (q_i2l x5)) := ⟨_, rfl⟩
  replace hT := qlet_eq hT hq43
  refine r_backV F hS (r_runV (k := 177) (N := 9) (T := T4) (As := [vI 24, .long (q_i2l x5)]) F hS (show 177 < 191 by decide) (show shK 177 = 8 from rfl) rfl (c_Laws_name l F.2.2.1 q41 24 (q_i2l x5) (inr_c rfl) _ hq43.symm) gs_Laws_79 hd_Laws_name ⟨Nat.le_of_ble_eq_true rfl, Nat.le_of_ble_eq_true rfl⟩ rfl hl.1 (Nat.le_of_ble_eq_true rfl) ⟨Nat.zero_le _, Nat.zero_le _⟩ rfl d_Laws_pushFrom_214) (fun H locs hS => ?_)
  refine lv_aload_n F.hx F.hb d_Laws_pushFrom_217 rfl (lv_at hl 1 rfl) ?_
  refine r_get (v := .ref (b + (k1 + 10))) (N := 20) (T := T11) (j := 9) F hS (Town_lt hk1) (Town_sh hk1) (Town_N hk1) rfl (Nat.le_of_ble_eq_true rfl) ing11 mw_116 (Town_g9 hk1 _) d_Laws_pushFrom_218 ?_
  refine lv_aload_n F.hx F.hb d_Laws_pushFrom_221 rfl (lv_at hl 0 rfl) ?_
  refine r_get (v := .ref (b + 178)) (N := 9) (T := T4) (j := 0) F hS (show 177 < 191 by decide) (show shK 177 = 8 from rfl) (show shN 177 = 9 from rfl) rfl (Nat.le_of_ble_eq_true rfl) ing4 mw_438 (fv_sg rfl rfl rfl) d_Laws_pushFrom_222 ?_
  obtain ⟨q45, hq45, hT⟩ := q_obind hT
  refine r_backL F hS (r_runV (k := (k1 + 10)) (N := 12) (T := T3) (As := [.ref (b + 178)]) F hS (Formula_lt (Town_f9 hk1)) (Formula_sh (Town_f9 hk1)) rfl (c_Formula_value l F.2.2.1 q43 (k1 + 10) 178 7 (Town_f9 hk1) (show arrP 2 178 7 191 from ⟨rfl, rfl, by decide⟩) _ hq45) gs_Laws_90 hd_Formula_value ⟨Nat.le_of_ble_eq_true rfl, Nat.le_of_ble_eq_true rfl⟩ rfl hl.1 (Nat.le_of_ble_eq_true rfl) ⟨Nat.zero_le _, Nat.zero_le _⟩ rfl d_Laws_pushFrom_225) (fun H locs hS => ?_)
  cases hT
  exact r_lret F hlk hr hS d_Laws_pushFrom_228
set_option maxHeartbeats 4000000 in
set_option maxRecDepth 100000 in
theorem k_Laws_pushFrom_L204 (l : Launch) {p : Program} {e : Env} {s : State} {m : MethodId} {below : List Frame} {meth : Method} {c : Code} {b n : Nat} {C : CT} (hlo : 191 ≤ n) (k1 : Nat) (k2 : Nat) (x3 : Int) (x4 : Int) (x5 : Int) (hk1 : isTown k1) (hk2 : isScene k2) (hx3 : InR x3) (hx4 : InR x4) (hx5 : InR x5) (F : Cx b p m c b_Laws_pushFrom 10 s ([.ref (b + 177), .ref (b + k1), .ref (b + k2), vI x3, vI x4, vI x5] : List Value).toArray "WardFalls$Laws" C n 191) (hlk : meth.locks = false) (hr : meth.sig.returnType = some .long) {res : Mem × Int64} (M : Mem) (v4_ : Int) (hv4_ : InR v4_) (H : Heap) (locs : List Loc) (ls : Array Slot) (hS : St b C n M s H locs) (hl : lv_has ls 10 [(0, .ref (b + 177)), (1, .ref (b + k1)), (5, vI x5)]) (hT : t_Laws_pushFrom_L204 k1 k2 x3 x4 x5 M v4_ = some res) : W p l e (headSpec (wsM y_Laws_pushFrom b_Laws_pushFrom 10 (some .long)) (rmD 4)).room s m ([.ref (b + 177), .ref (b + k1), .ref (b + k2), vI x3, vI x4, vI x5] : List Value).toArray below meth c H locs 0 0 (MQ below (QL b C n res.1 res.2) ([.ref (b + 177), .ref (b + k1), .ref (b + k2), vI x3, vI x4, vI x5] : List Value).toArray s 0 0 (frb b)) (F0 m 204 ls [vI v4_, .ref (b + 177)]) := by
  unfold t_Laws_pushFrom_L204 at hT
  refine lv_lconst (v := 0) F.hx F.hb d_Laws_pushFrom_204 rfl ?_
  exact k_Laws_pushFrom_L205 l hlo k1 k2 x3 x4 x5 hk1 hk2 hx3 hx4 hx5 F hlk hr M v4_ hv4_ 0 _ _ _ hS (lv_sub hl [0, 1, 2] rfl) hT
set_option maxHeartbeats 4000000 in
set_option maxRecDepth 100000 in
theorem k_Laws_pushFrom_L177 (l : Launch) {p : Program} {e : Env} {s : State} {m : MethodId} {below : List Frame} {meth : Method} {c : Code} {b n : Nat} {C : CT} (hlo : 191 ≤ n) (k1 : Nat) (k2 : Nat) (x3 : Int) (x4 : Int) (x5 : Int) (hk1 : isTown k1) (hk2 : isScene k2) (hx3 : InR x3) (hx4 : InR x4) (hx5 : InR x5) (F : Cx b p m c b_Laws_pushFrom 10 s ([.ref (b + 177), .ref (b + k1), .ref (b + k2), vI x3, vI x4, vI x5] : List Value).toArray "WardFalls$Laws" C n 191) (hlk : meth.locks = false) (hr : meth.sig.returnType = some .long) {res : Mem × Int64} (M : Mem) (v4_ : Int) (hv4_ : InR v4_) (v6_ : Int) (hv6_ : InR v6_) (v7_ : Int64) (H : Heap) (locs : List Loc) (ls : Array Slot) (hS : St b C n M s H locs) (hl : lv_has ls 10 [(0, .ref (b + 177)), (1, .ref (b + k1)), (4, vI x4), (5, vI x5), (9, vI v4_)]) (hT : t_Laws_pushFrom_L177 k1 k2 x3 x4 x5 M v4_ v6_ v7_ = some res) : W p l e (headSpec (wsM y_Laws_pushFrom b_Laws_pushFrom 10 (some .long)) (rmD 4)).room s m ([.ref (b + 177), .ref (b + k1), .ref (b + k2), vI x3, vI x4, vI x5] : List Value).toArray below meth c H locs 0 0 (MQ below (QL b C n res.1 res.2) ([.ref (b + 177), .ref (b + k1), .ref (b + k2), vI x3, vI x4, vI x5] : List Value).toArray s 0 0 (frb b)) (F0 m 177 ls [.long v7_, vI v6_, .ref (b + 177)]) := by
  unfold t_Laws_pushFrom_L177 at hT
  obtain ⟨q37, hq37⟩ : ∃ q, q = (t_Laws_name M v6_ v7_) := ⟨_, rfl⟩
  replace hT := qlet_eq hT hq37
  refine r_backV F hS (r_runV (k := 177) (N := 9) (T := T4) (As := [vI v6_, .long v7_]) F hS (show 177 < 191 by decide) (show shK 177 = 8 from rfl) rfl (c_Laws_name l F.2.2.1 M v6_ v7_ hv6_ _ hq37.symm) gs_Laws_79 hd_Laws_name ⟨Nat.le_of_ble_eq_true rfl, Nat.le_of_ble_eq_true rfl⟩ rfl hl.1 (Nat.le_of_ble_eq_true rfl) ⟨Nat.zero_le _, Nat.zero_le _⟩ rfl d_Laws_pushFrom_177) (fun H locs hS => ?_)
  refine lv_aload_n F.hx F.hb d_Laws_pushFrom_180 rfl (lv_at hl 0 rfl) ?_
  refine r_bipush F.hx F.hb d_Laws_pushFrom_181 rfl ?_
  refine lv_iload F.hx F.hb d_Laws_pushFrom_183 (lv_at hl 4 rfl) ?_
  refine r_iconst F.hx F.hb d_Laws_pushFrom_185 ?_
  refine r_icmp_eq (tgt := 204) F.hx F.hb hv4_ (inr_c rfl) d_Laws_pushFrom_186 (by decide) (fun c39 => ?_) (fun c39 => ?_)
  · replace hT := (if_pos c39).symm.trans hT
    exact k_Laws_pushFrom_L204 l hlo k1 k2 x3 x4 x5 hk1 hk2 hx3 hx4 hx5 F hlk hr q37 23 (inr_c rfl) _ _ _ hS (lv_sub hl [0, 1, 3] rfl) hT
  · replace hT := (if_neg c39).symm.trans hT
    refine lv_iload F.hx F.hb d_Laws_pushFrom_189 (lv_at hl 4 rfl) ?_
    refine r_iconst F.hx F.hb d_Laws_pushFrom_191 ?_
    refine r_iadd F.hx F.hb d_Laws_pushFrom_192 ?_
    refine r_iconst F.hx F.hb d_Laws_pushFrom_193 ?_
    refine r_irem F.hx F.hb (inr_c rfl) (by decide) d_Laws_pushFrom_194 ?_
    refine lv_iload F.hx F.hb d_Laws_pushFrom_195 (lv_at hl 2 rfl) ?_
    refine r_icmp_ne (tgt := 204) F.hx F.hb (q_inr_toInt _) hx4 d_Laws_pushFrom_197 (by decide) (fun c40 => ?_) (fun c40 => ?_)
    · replace hT := (if_neg c40).symm.trans hT
      exact k_Laws_pushFrom_L204 l hlo k1 k2 x3 x4 x5 hk1 hk2 hx3 hx4 hx5 F hlk hr q37 23 (inr_c rfl) _ _ _ hS (lv_sub hl [0, 1, 3] rfl) hT
    · replace hT := (if_pos c40).symm.trans hT
      refine lv_lconst (v := 1) F.hx F.hb d_Laws_pushFrom_200 rfl ?_
      refine lv_goto (tgt := 205) F.hx F.hb d_Laws_pushFrom_201 (by decide) ?_
      exact k_Laws_pushFrom_L205 l hlo k1 k2 x3 x4 x5 hk1 hk2 hx3 hx4 hx5 F hlk hr q37 23 (inr_c rfl) 1 _ _ _ hS (lv_sub hl [0, 1, 3] rfl) hT
set_option maxHeartbeats 4000000 in
set_option maxRecDepth 100000 in
theorem k_Laws_pushFrom_L156 (l : Launch) {p : Program} {e : Env} {s : State} {m : MethodId} {below : List Frame} {meth : Method} {c : Code} {b n : Nat} {C : CT} (hlo : 191 ≤ n) (k1 : Nat) (k2 : Nat) (x3 : Int) (x4 : Int) (x5 : Int) (hk1 : isTown k1) (hk2 : isScene k2) (hx3 : InR x3) (hx4 : InR x4) (hx5 : InR x5) (F : Cx b p m c b_Laws_pushFrom 10 s ([.ref (b + 177), .ref (b + k1), .ref (b + k2), vI x3, vI x4, vI x5] : List Value).toArray "WardFalls$Laws" C n 191) (hlk : meth.locks = false) (hr : meth.sig.returnType = some .long) {res : Mem × Int64} (M : Mem) (v5_ : Int) (hv5_ : InR v5_) (v6_ : Int) (hv6_ : InR v6_) (v8_ : Int) (hv8_ : InR v8_) (v9_ : Int64) (H : Heap) (locs : List Loc) (ls : Array Slot) (hS : St b C n M s H locs) (hl : lv_has ls 10 [(0, .ref (b + 177)), (1, .ref (b + k1)), (3, vI x3), (4, vI x4), (5, vI x5), (6, vI v5_), (9, vI v6_)]) (hT : t_Laws_pushFrom_L156 k1 k2 x3 x4 x5 M v5_ v6_ v8_ v9_ = some res) : W p l e (headSpec (wsM y_Laws_pushFrom b_Laws_pushFrom 10 (some .long)) (rmD 4)).room s m ([.ref (b + 177), .ref (b + k1), .ref (b + k2), vI x3, vI x4, vI x5] : List Value).toArray below meth c H locs 0 0 (MQ below (QL b C n res.1 res.2) ([.ref (b + 177), .ref (b + k1), .ref (b + k2), vI x3, vI x4, vI x5] : List Value).toArray s 0 0 (frb b)) (F0 m 156 ls [.long v9_, vI v8_, .ref (b + 177)]) := by
  unfold t_Laws_pushFrom_L156 at hT
  obtain ⟨q32, hq32⟩ : ∃ q, q = (t_Laws_name M v8_ v9_) := ⟨_, rfl⟩
  replace hT := qlet_eq hT hq32
  refine r_backV F hS (r_runV (k := 177) (N := 9) (T := T4) (As := [vI v8_, .long v9_]) F hS (show 177 < 191 by decide) (show shK 177 = 8 from rfl) rfl (c_Laws_name l F.2.2.1 M v8_ v9_ hv8_ _ hq32.symm) gs_Laws_79 hd_Laws_name ⟨Nat.le_of_ble_eq_true rfl, Nat.le_of_ble_eq_true rfl⟩ rfl hl.1 (Nat.le_of_ble_eq_true rfl) ⟨Nat.zero_le _, Nat.zero_le _⟩ rfl d_Laws_pushFrom_156) (fun H locs hS => ?_)
  refine lv_aload_n F.hx F.hb d_Laws_pushFrom_159 rfl (lv_at hl 0 rfl) ?_
  refine r_bipush F.hx F.hb d_Laws_pushFrom_160 rfl ?_
  refine lv_aload_n F.hx F.hb d_Laws_pushFrom_162 rfl (lv_at hl 1 rfl) ?_
  refine lv_iload_n F.hx F.hb d_Laws_pushFrom_163 rfl (lv_at hl 2 rfl) ?_
  refine lv_iload F.hx F.hb d_Laws_pushFrom_164 (lv_at hl 5 rfl) ?_
  obtain ⟨q34, hq34⟩ : ∃ q, q = (t_Town_isLine q32 k1 x3 v5_) := ⟨_, rfl⟩
  replace hT := qlet_eq hT hq34
  refine r_backZ F hS (r_runV (k := k1) (N := 20) (T := T11) (As := [vI x3, vI v5_]) F hS (Town_lt hk1) (Town_sh hk1) rfl (c_Town_isLine l F.2.2.1 q32 k1 x3 v5_ hk1 hx3 hv5_ _ hq34.symm) gs_Laws_132 hd_Town_isLine ⟨Nat.le_of_ble_eq_true rfl, Nat.le_of_ble_eq_true rfl⟩ rfl hl.1 (Nat.le_of_ble_eq_true rfl) ⟨Nat.zero_le _, Nat.zero_le _⟩ rfl d_Laws_pushFrom_166) (fun H locs hS h35 => ?_)
  refine r_if_eq (tgt := 176) F.hx F.hb (inr_z h35) d_Laws_pushFrom_169 (by decide) (fun c36 => ?_) (fun c36 => ?_)
  · replace hT := (if_pos c36).symm.trans hT
    refine lv_lconst (v := 0) F.hx F.hb d_Laws_pushFrom_176 rfl ?_
    exact k_Laws_pushFrom_L177 l hlo k1 k2 x3 x4 x5 hk1 hk2 hx3 hx4 hx5 F hlk hr q32 v6_ hv6_ 22 (inr_c rfl) 0 _ _ _ hS (lv_sub hl [0, 1, 3, 4, 6] rfl) hT
  · replace hT := (if_neg c36).symm.trans hT
    refine lv_lconst (v := 1) F.hx F.hb d_Laws_pushFrom_172 rfl ?_
    refine lv_goto (tgt := 177) F.hx F.hb d_Laws_pushFrom_173 (by decide) ?_
    exact k_Laws_pushFrom_L177 l hlo k1 k2 x3 x4 x5 hk1 hk2 hx3 hx4 hx5 F hlk hr q32 v6_ hv6_ 22 (inr_c rfl) 1 _ _ _ hS (lv_sub hl [0, 1, 3, 4, 6] rfl) hT
set_option maxHeartbeats 4000000 in
set_option maxRecDepth 100000 in
theorem k_Laws_pushFrom_L131 (l : Launch) {p : Program} {e : Env} {s : State} {m : MethodId} {below : List Frame} {meth : Method} {c : Code} {b n : Nat} {C : CT} (hlo : 191 ≤ n) (k1 : Nat) (k2 : Nat) (x3 : Int) (x4 : Int) (x5 : Int) (hk1 : isTown k1) (hk2 : isScene k2) (hx3 : InR x3) (hx4 : InR x4) (hx5 : InR x5) (F : Cx b p m c b_Laws_pushFrom 10 s ([.ref (b + 177), .ref (b + k1), .ref (b + k2), vI x3, vI x4, vI x5] : List Value).toArray "WardFalls$Laws" C n 191) (hlk : meth.locks = false) (hr : meth.sig.returnType = some .long) {res : Mem × Int64} (M : Mem) (v5_ : Int) (hv5_ : InR v5_) (v6_ : Int) (hv6_ : InR v6_) (v7_ : Int) (hv7_ : InR v7_) (v9_ : Int) (hv9_ : InR v9_) (v10_ : Int64) (H : Heap) (locs : List Loc) (ls : Array Slot) (hS : St b C n M s H locs) (hl : lv_has ls 10 [(0, .ref (b + 177)), (1, .ref (b + k1)), (3, vI x3), (4, vI x4), (5, vI x5), (6, vI v5_), (8, vI v6_), (9, vI v7_)]) (hT : t_Laws_pushFrom_L131 k1 k2 x3 x4 x5 M v5_ v6_ v7_ v9_ v10_ = some res) : W p l e (headSpec (wsM y_Laws_pushFrom b_Laws_pushFrom 10 (some .long)) (rmD 4)).room s m ([.ref (b + 177), .ref (b + k1), .ref (b + k2), vI x3, vI x4, vI x5] : List Value).toArray below meth c H locs 0 0 (MQ below (QL b C n res.1 res.2) ([.ref (b + 177), .ref (b + k1), .ref (b + k2), vI x3, vI x4, vI x5] : List Value).toArray s 0 0 (frb b)) (F0 m 131 ls [.long v10_, vI v9_, .ref (b + 177)]) := by
  unfold t_Laws_pushFrom_L131 at hT
  obtain ⟨q27, hq27⟩ : ∃ q, q = (t_Laws_name M v9_ v10_) := ⟨_, rfl⟩
  replace hT := qlet_eq hT hq27
  refine r_backV F hS (r_runV (k := 177) (N := 9) (T := T4) (As := [vI v9_, .long v10_]) F hS (show 177 < 191 by decide) (show shK 177 = 8 from rfl) rfl (c_Laws_name l F.2.2.1 M v9_ v10_ hv9_ _ hq27.symm) gs_Laws_79 hd_Laws_name ⟨Nat.le_of_ble_eq_true rfl, Nat.le_of_ble_eq_true rfl⟩ rfl hl.1 (Nat.le_of_ble_eq_true rfl) ⟨Nat.zero_le _, Nat.zero_le _⟩ rfl d_Laws_pushFrom_131) (fun H locs hS => ?_)
  refine lv_aload_n F.hx F.hb d_Laws_pushFrom_134 rfl (lv_at hl 0 rfl) ?_
  refine r_bipush F.hx F.hb d_Laws_pushFrom_135 rfl ?_
  refine lv_iload F.hx F.hb d_Laws_pushFrom_137 (lv_at hl 6 rfl) ?_
  refine r_if_ge (tgt := 146) F.hx F.hb hv6_ d_Laws_pushFrom_139 (by decide) (fun c29 => ?_) (fun c29 => ?_)
  · replace hT := (if_pos c29).symm.trans hT
    refine lv_aload_n F.hx F.hb d_Laws_pushFrom_146 rfl (lv_at hl 1 rfl) ?_
    refine r_get (v := .ref (b + (k1 + 6))) (N := 20) (T := T11) (j := 5) F hS (Town_lt hk1) (Town_sh hk1) (Town_N hk1) rfl (Nat.le_of_ble_eq_true rfl) ing11 mw_105 (Town_g5 hk1 _) d_Laws_pushFrom_147 ?_
    refine lv_iload F.hx F.hb d_Laws_pushFrom_150 (lv_at hl 6 rfl) ?_
    obtain ⟨q30, hq30⟩ : ∃ q, q = (t_WF_look q27 (k1 + 6) 8 v6_) := ⟨_, rfl⟩
    replace hT := qlet_eq hT hq30
    refine r_backI F hS (r_runSN (As := [.ref (b + (k1 + 6)), vI v6_]) F hS (c_WF_look l F.2.2.1 q27 (k1 + 6) 8 v6_ (Town_f5 hk1) hv6_ _ hq30.symm) mw_519 mw_518 mw_1 gs_Laws_52 hd_WF_look ⟨Nat.le_of_ble_eq_true rfl, Nat.le_of_ble_eq_true rfl⟩ rfl hl.1 (Nat.le_of_ble_eq_true rfl) ⟨Nat.zero_le _, Nat.zero_le _⟩ rfl d_Laws_pushFrom_152) (fun H locs hS h31 => ?_)
    refine r_i2l F.hx F.hb d_Laws_pushFrom_155 ?_
    exact k_Laws_pushFrom_L156 l hlo k1 k2 x3 x4 x5 hk1 hk2 hx3 hx4 hx5 F hlk hr q27 v5_ hv5_ v7_ hv7_ 21 (inr_c rfl) (q_i2l q30) _ _ _ hS (lv_sub hl [0, 1, 2, 3, 4, 5, 7] rfl) hT
  · replace hT := (if_neg c29).symm.trans hT
    refine lv_lconst (v := 0) F.hx F.hb d_Laws_pushFrom_142 rfl ?_
    refine lv_goto (tgt := 156) F.hx F.hb d_Laws_pushFrom_143 (by decide) ?_
    exact k_Laws_pushFrom_L156 l hlo k1 k2 x3 x4 x5 hk1 hk2 hx3 hx4 hx5 F hlk hr q27 v5_ hv5_ v7_ hv7_ 21 (inr_c rfl) 0 _ _ _ hS (lv_sub hl [0, 1, 2, 3, 4, 5, 7] rfl) hT
set_option maxHeartbeats 4000000 in
set_option maxRecDepth 100000 in
theorem k_Laws_pushFrom_L115 (l : Launch) {p : Program} {e : Env} {s : State} {m : MethodId} {below : List Frame} {meth : Method} {c : Code} {b n : Nat} {C : CT} (hlo : 191 ≤ n) (k1 : Nat) (k2 : Nat) (x3 : Int) (x4 : Int) (x5 : Int) (hk1 : isTown k1) (hk2 : isScene k2) (hx3 : InR x3) (hx4 : InR x4) (hx5 : InR x5) (F : Cx b p m c b_Laws_pushFrom 10 s ([.ref (b + 177), .ref (b + k1), .ref (b + k2), vI x3, vI x4, vI x5] : List Value).toArray "WardFalls$Laws" C n 191) (hlk : meth.locks = false) (hr : meth.sig.returnType = some .long) {res : Mem × Int64} (M : Mem) (v5_ : Int) (hv5_ : InR v5_) (v6_ : Int) (hv6_ : InR v6_) (v7_ : Int) (hv7_ : InR v7_) (v9_ : Int) (hv9_ : InR v9_) (v10_ : Int64) (H : Heap) (locs : List Loc) (ls : Array Slot) (hS : St b C n M s H locs) (hl : lv_has ls 10 [(0, .ref (b + 177)), (1, .ref (b + k1)), (3, vI x3), (4, vI x4), (5, vI x5), (6, vI v5_), (8, vI v6_), (9, vI v7_)]) (hT : t_Laws_pushFrom_L115 k1 k2 x3 x4 x5 M v5_ v6_ v7_ v9_ v10_ = some res) : W p l e (headSpec (wsM y_Laws_pushFrom b_Laws_pushFrom 10 (some .long)) (rmD 4)).room s m ([.ref (b + 177), .ref (b + k1), .ref (b + k2), vI x3, vI x4, vI x5] : List Value).toArray below meth c H locs 0 0 (MQ below (QL b C n res.1 res.2) ([.ref (b + 177), .ref (b + k1), .ref (b + k2), vI x3, vI x4, vI x5] : List Value).toArray s 0 0 (frb b)) (F0 m 115 ls [.long v10_, vI v9_, .ref (b + 177)]) := by
  unfold t_Laws_pushFrom_L115 at hT
  obtain ⟨q24, hq24⟩ : ∃ q, q = (t_Laws_name M v9_ v10_) := ⟨_, rfl⟩
  replace hT := qlet_eq hT hq24
  refine r_backV F hS (r_runV (k := 177) (N := 9) (T := T4) (As := [vI v9_, .long v10_]) F hS (show 177 < 191 by decide) (show shK 177 = 8 from rfl) rfl (c_Laws_name l F.2.2.1 M v9_ v10_ hv9_ _ hq24.symm) gs_Laws_79 hd_Laws_name ⟨Nat.le_of_ble_eq_true rfl, Nat.le_of_ble_eq_true rfl⟩ rfl hl.1 (Nat.le_of_ble_eq_true rfl) ⟨Nat.zero_le _, Nat.zero_le _⟩ rfl d_Laws_pushFrom_115) (fun H locs hS => ?_)
  refine lv_aload_n F.hx F.hb d_Laws_pushFrom_118 rfl (lv_at hl 0 rfl) ?_
  refine r_bipush F.hx F.hb d_Laws_pushFrom_119 rfl ?_
  refine lv_iload F.hx F.hb d_Laws_pushFrom_121 (lv_at hl 6 rfl) ?_
  refine r_if_ge (tgt := 130) F.hx F.hb hv6_ d_Laws_pushFrom_123 (by decide) (fun c26 => ?_) (fun c26 => ?_)
  · replace hT := (if_pos c26).symm.trans hT
    refine lv_lconst (v := 1) F.hx F.hb d_Laws_pushFrom_130 rfl ?_
    exact k_Laws_pushFrom_L131 l hlo k1 k2 x3 x4 x5 hk1 hk2 hx3 hx4 hx5 F hlk hr q24 v5_ hv5_ v6_ hv6_ v7_ hv7_ 20 (inr_c rfl) 1 _ _ _ hS (lv_sub hl [0, 1, 2, 3, 4, 5, 6, 7] rfl) hT
  · replace hT := (if_neg c26).symm.trans hT
    refine lv_lconst (v := 0) F.hx F.hb d_Laws_pushFrom_126 rfl ?_
    refine lv_goto (tgt := 131) F.hx F.hb d_Laws_pushFrom_127 (by decide) ?_
    exact k_Laws_pushFrom_L131 l hlo k1 k2 x3 x4 x5 hk1 hk2 hx3 hx4 hx5 F hlk hr q24 v5_ hv5_ v6_ hv6_ v7_ hv7_ 20 (inr_c rfl) 0 _ _ _ hS (lv_sub hl [0, 1, 2, 3, 4, 5, 6, 7] rfl) hT
set_option maxHeartbeats 4000000 in
set_option maxRecDepth 100000 in
theorem k_Laws_pushFrom_L90 (l : Launch) {p : Program} {e : Env} {s : State} {m : MethodId} {below : List Frame} {meth : Method} {c : Code} {b n : Nat} {C : CT} (hlo : 191 ≤ n) (k1 : Nat) (k2 : Nat) (x3 : Int) (x4 : Int) (x5 : Int) (hk1 : isTown k1) (hk2 : isScene k2) (hx3 : InR x3) (hx4 : InR x4) (hx5 : InR x5) (F : Cx b p m c b_Laws_pushFrom 10 s ([.ref (b + 177), .ref (b + k1), .ref (b + k2), vI x3, vI x4, vI x5] : List Value).toArray "WardFalls$Laws" C n 191) (hlk : meth.locks = false) (hr : meth.sig.returnType = some .long) {res : Mem × Int64} (M : Mem) (v5_ : Int) (hv5_ : InR v5_) (v6_ : Int) (hv6_ : InR v6_) (v7_ : Int) (hv7_ : InR v7_) (v8_ : Int) (hv8_ : InR v8_) (v10_ : Int) (hv10_ : InR v10_) (v11_ : Int64) (H : Heap) (locs : List Loc) (ls : Array Slot) (hS : St b C n M s H locs) (hl : lv_has ls 10 [(0, .ref (b + 177)), (1, .ref (b + k1)), (3, vI x3), (4, vI x4), (5, vI x5), (6, vI v5_), (7, vI v6_), (8, vI v7_), (9, vI v8_)]) (hT : t_Laws_pushFrom_L90 k1 k2 x3 x4 x5 M v5_ v6_ v7_ v8_ v10_ v11_ = some res) : W p l e (headSpec (wsM y_Laws_pushFrom b_Laws_pushFrom 10 (some .long)) (rmD 4)).room s m ([.ref (b + 177), .ref (b + k1), .ref (b + k2), vI x3, vI x4, vI x5] : List Value).toArray below meth c H locs 0 0 (MQ below (QL b C n res.1 res.2) ([.ref (b + 177), .ref (b + k1), .ref (b + k2), vI x3, vI x4, vI x5] : List Value).toArray s 0 0 (frb b)) (F0 m 90 ls [.long v11_, vI v10_, .ref (b + 177)]) := by
  unfold t_Laws_pushFrom_L90 at hT
  obtain ⟨q19, hq19⟩ : ∃ q, q = (t_Laws_name M v10_ v11_) := ⟨_, rfl⟩
  replace hT := qlet_eq hT hq19
  refine r_backV F hS (r_runV (k := 177) (N := 9) (T := T4) (As := [vI v10_, .long v11_]) F hS (show 177 < 191 by decide) (show shK 177 = 8 from rfl) rfl (c_Laws_name l F.2.2.1 M v10_ v11_ hv10_ _ hq19.symm) gs_Laws_79 hd_Laws_name ⟨Nat.le_of_ble_eq_true rfl, Nat.le_of_ble_eq_true rfl⟩ rfl hl.1 (Nat.le_of_ble_eq_true rfl) ⟨Nat.zero_le _, Nat.zero_le _⟩ rfl d_Laws_pushFrom_90) (fun H locs hS => ?_)
  refine lv_aload_n F.hx F.hb d_Laws_pushFrom_93 rfl (lv_at hl 0 rfl) ?_
  refine r_bipush F.hx F.hb d_Laws_pushFrom_94 rfl ?_
  refine lv_iload F.hx F.hb d_Laws_pushFrom_96 (lv_at hl 6 rfl) ?_
  refine r_if_ge (tgt := 105) F.hx F.hb hv6_ d_Laws_pushFrom_98 (by decide) (fun c21 => ?_) (fun c21 => ?_)
  · replace hT := (if_pos c21).symm.trans hT
    refine lv_aload_n F.hx F.hb d_Laws_pushFrom_105 rfl (lv_at hl 1 rfl) ?_
    refine r_get (v := .ref (b + (k1 + 4))) (N := 20) (T := T11) (j := 3) F hS (Town_lt hk1) (Town_sh hk1) (Town_N hk1) rfl (Nat.le_of_ble_eq_true rfl) ing11 mw_99 (Town_g3 hk1 _) d_Laws_pushFrom_106 ?_
    refine lv_iload F.hx F.hb d_Laws_pushFrom_109 (lv_at hl 6 rfl) ?_
    obtain ⟨q22, hq22⟩ : ∃ q, q = (t_WF_look q19 (k1 + 4) 4 v6_) := ⟨_, rfl⟩
    replace hT := qlet_eq hT hq22
    refine r_backI F hS (r_runSN (As := [.ref (b + (k1 + 4)), vI v6_]) F hS (c_WF_look l F.2.2.1 q19 (k1 + 4) 4 v6_ (Town_f3 hk1) hv6_ _ hq22.symm) mw_519 mw_518 mw_1 gs_Laws_52 hd_WF_look ⟨Nat.le_of_ble_eq_true rfl, Nat.le_of_ble_eq_true rfl⟩ rfl hl.1 (Nat.le_of_ble_eq_true rfl) ⟨Nat.zero_le _, Nat.zero_le _⟩ rfl d_Laws_pushFrom_111) (fun H locs hS h23 => ?_)
    refine r_i2l F.hx F.hb d_Laws_pushFrom_114 ?_
    exact k_Laws_pushFrom_L115 l hlo k1 k2 x3 x4 x5 hk1 hk2 hx3 hx4 hx5 F hlk hr q19 v5_ hv5_ v7_ hv7_ v8_ hv8_ 19 (inr_c rfl) (q_i2l q22) _ _ _ hS (lv_sub hl [0, 1, 2, 3, 4, 5, 7, 8] rfl) hT
  · replace hT := (if_neg c21).symm.trans hT
    refine lv_lconst (v := 0) F.hx F.hb d_Laws_pushFrom_101 rfl ?_
    refine lv_goto (tgt := 115) F.hx F.hb d_Laws_pushFrom_102 (by decide) ?_
    exact k_Laws_pushFrom_L115 l hlo k1 k2 x3 x4 x5 hk1 hk2 hx3 hx4 hx5 F hlk hr q19 v5_ hv5_ v7_ hv7_ v8_ hv8_ 19 (inr_c rfl) 0 _ _ _ hS (lv_sub hl [0, 1, 2, 3, 4, 5, 7, 8] rfl) hT
set_option maxHeartbeats 4000000 in
set_option maxRecDepth 100000 in
theorem c_Laws_pushFrom (l : Launch) {b n : Nat} {C : CT} (hlo : 191 ≤ n) (M : Mem) (k1 : Nat) (k2 : Nat) (x3 : Int) (x4 : Int) (x5 : Int) (hk1 : isTown k1) (hk2 : isScene k2) (hx3 : InR x3) (hx4 : InR x4) (hx5 : InR x5) (res : Mem × Int64) (hT : t_Laws_pushFrom M k1 k2 x3 x4 x5 = some res) : CM l b C n 4 y_Laws_pushFrom b_Laws_pushFrom 10 (some .long) [.ref (b + 177), .ref (b + k1), .ref (b + k2), vI x3, vI x4, vI x5] M (QL b C n res.1 res.2) := by
  refine CM.of (lo := 191) (ow := "WardFalls$Laws") (by decide) rfl (Nat.le_of_ble_eq_true rfl) hlo (fun p e s m below meth c F hlk hr hS ls hl => ?_)
  have hl : lv_has ls 10 [(0, .ref (b + 177)), (1, .ref (b + k1)), (2, .ref (b + k2)), (3, vI x3), (4, vI x4), (5, vI x5)] := hl
  unfold t_Laws_pushFrom at hT
  refine lv_aload_n F.hx F.hb d_Laws_pushFrom_0 rfl (lv_at hl 1 rfl) ?_
  refine lv_iload_n F.hx F.hb d_Laws_pushFrom_1 rfl (lv_at hl 3 rfl) ?_
  refine lv_iload F.hx F.hb d_Laws_pushFrom_2 (lv_at hl 4 rfl) ?_
  obtain ⟨q1, hq1⟩ : ∃ q, q = (t_Town_beside M k1 x3 x4) := ⟨_, rfl⟩
  replace hT := qlet_eq hT hq1
  refine r_backI F hS (r_runV (k := k1) (N := 20) (T := T11) (As := [vI x3, vI x4]) F hS (Town_lt hk1) (Town_sh hk1) rfl (c_Town_beside l F.2.2.1 M k1 x3 x4 hk1 hx3 hx4 _ hq1.symm) gs_Laws_113 hd_Town_beside ⟨Nat.le_of_ble_eq_true rfl, Nat.le_of_ble_eq_true rfl⟩ rfl hl.1 (Nat.le_of_ble_eq_true rfl) ⟨Nat.zero_le _, Nat.zero_le _⟩ rfl d_Laws_pushFrom_4) (fun H locs hS h2 => ?_)
  refine lv_istore (lv' := [(6, vI q1), (0, .ref (b + 177)), (1, .ref (b + k1)), (2, .ref (b + k2)), (3, vI x3), (4, vI x4), (5, vI x5)]) F.hx F.hb d_Laws_pushFrom_7 hl (Nat.le_of_ble_eq_true rfl) rfl (fun ls hl => ?_)
  refine lv_iload F.hx F.hb d_Laws_pushFrom_9 (lv_at hl 0 rfl) ?_
  refine r_if_lt (tgt := 39) F.hx F.hb h2 d_Laws_pushFrom_11 (by decide) (fun c3 => ?_) (fun c3 => ?_)
  · replace hT := (if_pos c3).symm.trans hT
    refine lv_ldc2 (v := (-9223372036854775808)) F.hx F.hb F.hown (F.hts mw_920) d_Laws_pushFrom_39 ?_
    cases hT
    exact r_lret F hlk hr hS d_Laws_pushFrom_42
  · replace hT := (if_neg c3).symm.trans hT
    refine lv_aload_n F.hx F.hb d_Laws_pushFrom_14 rfl (lv_at hl 3 rfl) ?_
    refine r_get (v := .long (M.2 k2 4)) (N := 7) (T := T9) (j := 4) F hS (Scene_lt hk2) (Scene_sh hk2) (Scene_N hk2) rfl (Nat.le_of_ble_eq_true rfl) ing9 mw_286 (fv_long rfl) d_Laws_pushFrom_15 ?_
    refine lv_iload_n F.hx F.hb d_Laws_pushFrom_18 rfl (lv_at hl 4 rfl) ?_
    obtain ⟨q4, hq4⟩ : ∃ q, q = (t_WF_bitOf M (M.2 k2 4) x3) := ⟨_, rfl⟩
    replace hT := qlet_eq hT hq4
    refine r_backI F hS (r_runSN (As := [.long (M.2 k2 4), vI x3]) F hS (c_WF_bitOf l F.2.2.1 M (M.2 k2 4) x3 hx3 _ hq4.symm) mw_773 mw_772 mw_1 gs_Laws_121 hd_WF_bitOf ⟨Nat.le_of_ble_eq_true rfl, Nat.le_of_ble_eq_true rfl⟩ rfl hl.1 (Nat.le_of_ble_eq_true rfl) ⟨Nat.zero_le _, Nat.zero_le _⟩ rfl d_Laws_pushFrom_19) (fun H locs hS h5 => ?_)
    refine r_iconst F.hx F.hb d_Laws_pushFrom_22 ?_
    refine r_icmp_eq (tgt := 39) F.hx F.hb h5 (inr_c rfl) d_Laws_pushFrom_23 (by decide) (fun c6 => ?_) (fun c6 => ?_)
    · replace hT := (if_pos c6).symm.trans hT
      refine lv_ldc2 (v := (-9223372036854775808)) F.hx F.hb F.hown (F.hts mw_920) d_Laws_pushFrom_39 ?_
      cases hT
      exact r_lret F hlk hr hS d_Laws_pushFrom_42
    · replace hT := (if_neg c6).symm.trans hT
      refine lv_aload_n F.hx F.hb d_Laws_pushFrom_26 rfl (lv_at hl 3 rfl) ?_
      refine r_get (v := .long (M.2 k2 4)) (N := 7) (T := T9) (j := 4) F hS (Scene_lt hk2) (Scene_sh hk2) (Scene_N hk2) rfl (Nat.le_of_ble_eq_true rfl) ing9 mw_286 (fv_long rfl) d_Laws_pushFrom_27 ?_
      refine lv_iload F.hx F.hb d_Laws_pushFrom_30 (lv_at hl 0 rfl) ?_
      obtain ⟨q7, hq7⟩ : ∃ q, q = (t_WF_bitOf M (M.2 k2 4) q1) := ⟨_, rfl⟩
      replace hT := qlet_eq hT hq7
      refine r_backI F hS (r_runSN (As := [.long (M.2 k2 4), vI q1]) F hS (c_WF_bitOf l F.2.2.1 M (M.2 k2 4) q1 h2 _ hq7.symm) mw_773 mw_772 mw_1 gs_Laws_121 hd_WF_bitOf ⟨Nat.le_of_ble_eq_true rfl, Nat.le_of_ble_eq_true rfl⟩ rfl hl.1 (Nat.le_of_ble_eq_true rfl) ⟨Nat.zero_le _, Nat.zero_le _⟩ rfl d_Laws_pushFrom_32) (fun H locs hS h8 => ?_)
      refine r_iconst F.hx F.hb d_Laws_pushFrom_35 ?_
      refine r_icmp_ne (tgt := 43) F.hx F.hb h8 (inr_c rfl) d_Laws_pushFrom_36 (by decide) (fun c9 => ?_) (fun c9 => ?_)
      · replace hT := (if_neg c9).symm.trans hT
        refine lv_aload_n F.hx F.hb d_Laws_pushFrom_43 rfl (lv_at hl 2 rfl) ?_
        refine lv_iload F.hx F.hb d_Laws_pushFrom_44 (lv_at hl 0 rfl) ?_
        obtain ⟨q10, hq10⟩ : ∃ q, q = (t_Town_ownerOf M k1 q1) := ⟨_, rfl⟩
        replace hT := qlet_eq hT hq10
        refine r_backI F hS (r_runV (k := k1) (N := 20) (T := T11) (As := [vI q1]) F hS (Town_lt hk1) (Town_sh hk1) rfl (c_Town_ownerOf l F.2.2.1 M k1 q1 hk1 h2 _ hq10.symm) gs_Laws_64 hd_Town_ownerOf ⟨Nat.le_of_ble_eq_true rfl, Nat.le_of_ble_eq_true rfl⟩ rfl hl.1 (Nat.le_of_ble_eq_true rfl) ⟨Nat.zero_le _, Nat.zero_le _⟩ rfl d_Laws_pushFrom_46) (fun H locs hS h11 => ?_)
        refine lv_istore (lv' := [(7, vI q10), (6, vI q1), (0, .ref (b + 177)), (1, .ref (b + k1)), (2, .ref (b + k2)), (3, vI x3), (4, vI x4), (5, vI x5)]) F.hx F.hb d_Laws_pushFrom_49 hl (Nat.le_of_ble_eq_true rfl) rfl (fun ls hl => ?_)
        refine lv_aload_n F.hx F.hb d_Laws_pushFrom_51 rfl (lv_at hl 4 rfl) ?_
        refine lv_aload_n F.hx F.hb d_Laws_pushFrom_52 rfl (lv_at hl 3 rfl) ?_
        refine lv_iload F.hx F.hb d_Laws_pushFrom_53 (lv_at hl 1 rfl) ?_
        obtain ⟨q12, hq12, hT⟩ := q_obind hT
        refine r_backI F hS (r_runV (k := k2) (N := 7) (T := T9) (As := [.ref (b + k1), vI q1]) F hS (Scene_lt hk2) (Scene_sh hk2) rfl (c_Scene_thingIn l F.2.2.1 M k2 k1 q1 hk2 hk1 h2 _ hq12) gs_Laws_125 hd_Scene_thingIn ⟨Nat.le_of_ble_eq_true rfl, Nat.le_of_ble_eq_true rfl⟩ rfl hl.1 (Nat.le_of_ble_eq_true rfl) ⟨Nat.zero_le _, Nat.zero_le _⟩ rfl d_Laws_pushFrom_55) (fun H locs hS h13 => ?_)
        refine lv_istore (lv' := [(8, vI q12), (7, vI q10), (6, vI q1), (0, .ref (b + 177)), (1, .ref (b + k1)), (2, .ref (b + k2)), (3, vI x3), (4, vI x4), (5, vI x5)]) F.hx F.hb d_Laws_pushFrom_58 hl (Nat.le_of_ble_eq_true rfl) rfl (fun ls hl => ?_)
        refine lv_aload_n F.hx F.hb d_Laws_pushFrom_60 rfl (lv_at hl 5 rfl) ?_
        refine lv_aload_n F.hx F.hb d_Laws_pushFrom_61 rfl (lv_at hl 4 rfl) ?_
        refine lv_iload_n F.hx F.hb d_Laws_pushFrom_62 rfl (lv_at hl 6 rfl) ?_
        obtain ⟨q14, hq14⟩ : ∃ q, q = (t_Scene_downOf M k2 k1 x3) := ⟨_, rfl⟩
        replace hT := qlet_eq hT hq14
        refine r_backI F hS (r_runV (k := k2) (N := 7) (T := T9) (As := [.ref (b + k1), vI x3]) F hS (Scene_lt hk2) (Scene_sh hk2) rfl (c_Scene_downOf l F.2.2.1 M k2 k1 x3 hk2 hk1 hx3 _ hq14.symm) gs_Laws_129 hd_Scene_downOf ⟨Nat.le_of_ble_eq_true rfl, Nat.le_of_ble_eq_true rfl⟩ rfl hl.1 (Nat.le_of_ble_eq_true rfl) ⟨Nat.zero_le _, Nat.zero_le _⟩ rfl d_Laws_pushFrom_63) (fun H locs hS h15 => ?_)
        refine lv_istore (lv' := [(9, vI q14), (8, vI q12), (7, vI q10), (6, vI q1), (0, .ref (b + 177)), (1, .ref (b + k1)), (2, .ref (b + k2)), (3, vI x3), (4, vI x4), (5, vI x5)]) F.hx F.hb d_Laws_pushFrom_66 hl (Nat.le_of_ble_eq_true rfl) rfl (fun ls hl => ?_)
        refine lv_aload_n F.hx F.hb d_Laws_pushFrom_68 rfl (lv_at hl 4 rfl) ?_
        refine r_bipush F.hx F.hb d_Laws_pushFrom_69 rfl ?_
        refine lv_iload F.hx F.hb d_Laws_pushFrom_71 (lv_at hl 2 rfl) ?_
        refine r_if_ge (tgt := 80) F.hx F.hb h11 d_Laws_pushFrom_73 (by decide) (fun c16 => ?_) (fun c16 => ?_)
        · replace hT := (if_pos c16).symm.trans hT
          refine lv_aload_n F.hx F.hb d_Laws_pushFrom_80 rfl (lv_at hl 5 rfl) ?_
          refine r_get (v := .ref (b + (k1 + 3))) (N := 20) (T := T11) (j := 2) F hS (Town_lt hk1) (Town_sh hk1) (Town_N hk1) rfl (Nat.le_of_ble_eq_true rfl) ing11 mw_95 (Town_g2 hk1 _) d_Laws_pushFrom_81 ?_
          refine lv_iload F.hx F.hb d_Laws_pushFrom_84 (lv_at hl 2 rfl) ?_
          obtain ⟨q17, hq17⟩ : ∃ q, q = (t_WF_look M (k1 + 3) 4 q10) := ⟨_, rfl⟩
          replace hT := qlet_eq hT hq17
          refine r_backI F hS (r_runSN (As := [.ref (b + (k1 + 3)), vI q10]) F hS (c_WF_look l F.2.2.1 M (k1 + 3) 4 q10 (Town_f2 hk1) h11 _ hq17.symm) mw_519 mw_518 mw_1 gs_Laws_52 hd_WF_look ⟨Nat.le_of_ble_eq_true rfl, Nat.le_of_ble_eq_true rfl⟩ rfl hl.1 (Nat.le_of_ble_eq_true rfl) ⟨Nat.zero_le _, Nat.zero_le _⟩ rfl d_Laws_pushFrom_86) (fun H locs hS h18 => ?_)
          refine r_i2l F.hx F.hb d_Laws_pushFrom_89 ?_
          exact k_Laws_pushFrom_L90 l hlo k1 k2 x3 x4 x5 hk1 hk2 hx3 hx4 hx5 F hlk hr M q1 h2 q10 h11 q12 h13 q14 h15 18 (inr_c rfl) (q_i2l q17) _ _ _ hS (lv_sub hl [4, 5, 7, 8, 9, 3, 2, 1, 0] rfl) hT
        · replace hT := (if_neg c16).symm.trans hT
          refine lv_lconst (v := 0) F.hx F.hb d_Laws_pushFrom_76 rfl ?_
          refine lv_goto (tgt := 90) F.hx F.hb d_Laws_pushFrom_77 (by decide) ?_
          exact k_Laws_pushFrom_L90 l hlo k1 k2 x3 x4 x5 hk1 hk2 hx3 hx4 hx5 F hlk hr M q1 h2 q10 h11 q12 h13 q14 h15 18 (inr_c rfl) 0 _ _ _ hS (lv_sub hl [4, 5, 7, 8, 9, 3, 2, 1, 0] rfl) hT
      · replace hT := (if_pos c9).symm.trans hT
        refine lv_ldc2 (v := (-9223372036854775808)) F.hx F.hb F.hown (F.hts mw_920) d_Laws_pushFrom_39 ?_
        cases hT
        exact r_lret F hlk hr hS d_Laws_pushFrom_42
theorem d_WF_law_0 : decode b_WF_law 0 = .ok (.iload_n 1, 1) := dc_27 (by decide +kernel)
theorem d_WF_law_1 : decode b_WF_law 1 = .ok (.ifCond .ne 28, 3) := dc_154 (by decide +kernel)
theorem d_WF_law_4 : decode b_WF_law 4 = .ok (.aload_n 0, 1) := dc_42 (by decide +kernel)
theorem d_WF_law_5 : decode b_WF_law 5 = .ok (.getfield 83, 3) := dc_180 (by decide +kernel)
theorem d_WF_law_8 : decode b_WF_law 8 = .ok (.aload_n 0, 1) := dc_42 (by decide +kernel)
theorem d_WF_law_9 : decode b_WF_law 9 = .ok (.getfield 22, 3) := dc_180 (by decide +kernel)
theorem d_WF_law_12 : decode b_WF_law 12 = .ok (.aload_n 0, 1) := dc_42 (by decide +kernel)
theorem d_WF_law_13 : decode b_WF_law 13 = .ok (.getfield 46, 3) := dc_180 (by decide +kernel)
theorem d_WF_law_16 : decode b_WF_law 16 = .ok (.iload_n 2, 1) := dc_28 (by decide +kernel)
theorem d_WF_law_17 : decode b_WF_law 17 = .ok (.iload_n 3, 1) := dc_29 (by decide +kernel)
theorem d_WF_law_18 : decode b_WF_law 18 = .ok (.aload_n 0, 1) := dc_42 (by decide +kernel)
theorem d_WF_law_19 : decode b_WF_law 19 = .ok (.getfield 59, 3) := dc_180 (by decide +kernel)
theorem d_WF_law_22 : decode b_WF_law 22 = .ok (.getfield 218, 3) := dc_180 (by decide +kernel)
theorem d_WF_law_25 : decode b_WF_law 25 = .ok (.invokevirtual 240, 3) := dc_182 (by decide +kernel)
theorem d_WF_law_28 : decode b_WF_law 28 = .ok (.lreturn, 1) := dc_173 (by decide +kernel)
theorem d_WF_law_29 : decode b_WF_law 29 = .ok (.iload_n 1, 1) := dc_27 (by decide +kernel)
theorem d_WF_law_30 : decode b_WF_law 30 = .ok (.iconst 1, 1) := dc_4 (by decide +kernel)
theorem d_WF_law_31 : decode b_WF_law 31 = .ok (.if_icmp .ne 14, 3) := dc_160 (by decide +kernel)
theorem d_WF_law_34 : decode b_WF_law 34 = .ok (.aload_n 0, 1) := dc_42 (by decide +kernel)
theorem d_WF_law_35 : decode b_WF_law 35 = .ok (.getfield 22, 3) := dc_180 (by decide +kernel)
theorem d_WF_law_38 : decode b_WF_law 38 = .ok (.iload_n 2, 1) := dc_28 (by decide +kernel)
theorem d_WF_law_39 : decode b_WF_law 39 = .ok (.invokevirtual 198, 3) := dc_182 (by decide +kernel)
theorem d_WF_law_42 : decode b_WF_law 42 = .ok (.ifCond .ne 7, 3) := dc_154 (by decide +kernel)
theorem d_WF_law_45 : decode b_WF_law 45 = .ok (.ldc2_w 244, 3) := dc_20 (by decide +kernel)
theorem d_WF_law_48 : decode b_WF_law 48 = .ok (.lreturn, 1) := dc_173 (by decide +kernel)
theorem d_WF_law_49 : decode b_WF_law 49 = .ok (.aload_n 0, 1) := dc_42 (by decide +kernel)
theorem d_WF_law_50 : decode b_WF_law 50 = .ok (.getfield 83, 3) := dc_180 (by decide +kernel)
theorem d_WF_law_53 : decode b_WF_law 53 = .ok (.aload_n 0, 1) := dc_42 (by decide +kernel)
theorem d_WF_law_54 : decode b_WF_law 54 = .ok (.getfield 22, 3) := dc_180 (by decide +kernel)
theorem d_WF_law_57 : decode b_WF_law 57 = .ok (.aload_n 0, 1) := dc_42 (by decide +kernel)
theorem d_WF_law_58 : decode b_WF_law 58 = .ok (.getfield 46, 3) := dc_180 (by decide +kernel)
theorem d_WF_law_61 : decode b_WF_law 61 = .ok (.invokevirtual 214, 3) := dc_182 (by decide +kernel)
theorem d_WF_law_64 : decode b_WF_law 64 = .ok (.aload_n 0, 1) := dc_42 (by decide +kernel)
theorem d_WF_law_65 : decode b_WF_law 65 = .ok (.getfield 83, 3) := dc_180 (by decide +kernel)
theorem d_WF_law_68 : decode b_WF_law 68 = .ok (.aload_n 0, 1) := dc_42 (by decide +kernel)
theorem d_WF_law_69 : decode b_WF_law 69 = .ok (.getfield 22, 3) := dc_180 (by decide +kernel)
theorem d_WF_law_72 : decode b_WF_law 72 = .ok (.iload_n 2, 1) := dc_28 (by decide +kernel)
theorem d_WF_law_73 : decode b_WF_law 73 = .ok (.aload_n 0, 1) := dc_42 (by decide +kernel)
theorem d_WF_law_74 : decode b_WF_law 74 = .ok (.getfield 59, 3) := dc_180 (by decide +kernel)
theorem d_WF_law_77 : decode b_WF_law 77 = .ok (.getfield 218, 3) := dc_180 (by decide +kernel)
theorem d_WF_law_80 : decode b_WF_law 80 = .ok (.invokevirtual 246, 3) := dc_182 (by decide +kernel)
theorem d_WF_law_83 : decode b_WF_law 83 = .ok (.lreturn, 1) := dc_173 (by decide +kernel)
def t_WF_law (M : Mem) (x1 : Int) (x2 : Int) (x3 : Int) : Option (Mem × Int64) := (if x1 = 0 then (obind (t_Laws_pushFrom M ((M.1 0 4).toNat) 47 x2 x3 (M.1 62 3)) fun q16 => (some ((q16.1), (q16.2)))) else (if x1 = 1 then (qlet (t_Town_hasWard M ((M.1 0 4).toNat) x2) fun q4 => (if q4 = 0 then (some (M, (-9223372036854775808))) else (obind (t_Laws_measure M ((M.1 0 4).toNat) 47) fun q8 => (obind (t_Laws_joyTold q8 ((q8.1 0 4).toNat) x2 (q8.1 62 3)) fun q12 => (some ((q12.1), (q12.2))))))) else (some (M, (-9223372036854775808)))))
set_option maxHeartbeats 4000000 in
set_option maxRecDepth 100000 in
theorem c_WF_law (l : Launch) {b n : Nat} {C : CT} (hlo : 191 ≤ n) (M : Mem) (x1 : Int) (x2 : Int) (x3 : Int) (hx1 : InR x1) (hx2 : InR x2) (hx3 : InR x3) (res : Mem × Int64) (hT : t_WF_law M x1 x2 x3 = some res) : CM l b C n 5 y_WF_law b_WF_law 4 (some .long) [.ref (b + 0), vI x1, vI x2, vI x3] M (QL b C n res.1 res.2) := by
  refine CM.of (lo := 191) (ow := "WardFalls") (by decide) rfl (Nat.le_of_ble_eq_true rfl) hlo (fun p e s m below meth c F hlk hr hS ls hl => ?_)
  have hl : lv_has ls 4 [(0, .ref (b + 0)), (1, vI x1), (2, vI x2), (3, vI x3)] := hl
  unfold t_WF_law at hT
  refine lv_iload_n F.hx F.hb d_WF_law_0 rfl (lv_at hl 1 rfl) ?_
  refine r_if_ne (tgt := 29) F.hx F.hb hx1 d_WF_law_1 (by decide) (fun c1 => ?_) (fun c1 => ?_)
  · replace hT := (if_neg c1).symm.trans hT
    refine lv_iload_n F.hx F.hb d_WF_law_29 rfl (lv_at hl 1 rfl) ?_
    refine r_iconst F.hx F.hb d_WF_law_30 ?_
    refine r_icmp_ne (tgt := 45) F.hx F.hb hx1 (inr_c rfl) d_WF_law_31 (by decide) (fun c2 => ?_) (fun c2 => ?_)
    · replace hT := (if_neg c2).symm.trans hT
      refine lv_ldc2 (v := (-9223372036854775808)) F.hx F.hb F.hown (F.hts mw_953) d_WF_law_45 ?_
      cases hT
      exact r_lret F hlk hr hS d_WF_law_48
    · replace hT := (if_pos c2).symm.trans hT
      refine lv_aload_n F.hx F.hb d_WF_law_34 rfl (lv_at hl 0 rfl) ?_
      have h3 := St_town hS
      refine r_get (v := .ref (b + ((M.1 0 4).toNat))) (N := 19) (T := T0) (j := 4) F hS (show 0 < 191 by decide) (show shK 0 = 4 from rfl) (show shN 0 = 19 from rfl) rfl (Nat.le_of_ble_eq_true rfl) ing0 mw_554 (fv_town hS) d_WF_law_35 ?_
      refine lv_iload_n F.hx F.hb d_WF_law_38 rfl (lv_at hl 2 rfl) ?_
      obtain ⟨q4, hq4⟩ : ∃ q, q = (t_Town_hasWard M ((M.1 0 4).toNat) x2) := ⟨_, rfl⟩
      replace hT := qlet_eq hT hq4
      refine r_backZ F hS (r_runV (k := ((M.1 0 4).toNat)) (N := 20) (T := T11) (As := [vI x2]) F hS (Town_lt h3) (Town_sh h3) rfl (c_Town_hasWard l F.2.2.1 M ((M.1 0 4).toNat) x2 h3 hx2 _ hq4.symm) gs_WF_198 hd_Town_hasWard ⟨Nat.le_of_ble_eq_true rfl, Nat.le_of_ble_eq_true rfl⟩ rfl hl.1 (Nat.le_of_ble_eq_true rfl) ⟨Nat.zero_le _, Nat.zero_le _⟩ rfl d_WF_law_39) (fun H locs hS h5 => ?_)
      refine r_if_ne (tgt := 49) F.hx F.hb (inr_z h5) d_WF_law_42 (by decide) (fun c6 => ?_) (fun c6 => ?_)
      · replace hT := (if_neg c6).symm.trans hT
        refine lv_aload_n F.hx F.hb d_WF_law_49 rfl (lv_at hl 0 rfl) ?_
        refine r_get (v := .ref (b + 177)) (N := 19) (T := T0) (j := 16) F hS (show 0 < 191 by decide) (show shK 0 = 4 from rfl) (show shN 0 = 19 from rfl) rfl (Nat.le_of_ble_eq_true rfl) ing0 mw_566 (fv_sg rfl rfl rfl) d_WF_law_50 ?_
        refine lv_aload_n F.hx F.hb d_WF_law_53 rfl (lv_at hl 0 rfl) ?_
        have h7 := St_town hS
        refine r_get (v := .ref (b + ((M.1 0 4).toNat))) (N := 19) (T := T0) (j := 4) F hS (show 0 < 191 by decide) (show shK 0 = 4 from rfl) (show shN 0 = 19 from rfl) rfl (Nat.le_of_ble_eq_true rfl) ing0 mw_554 (fv_town hS) d_WF_law_54 ?_
        refine lv_aload_n F.hx F.hb d_WF_law_57 rfl (lv_at hl 0 rfl) ?_
        refine r_get (v := .ref (b + 47)) (N := 19) (T := T0) (j := 8) F hS (show 0 < 191 by decide) (show shK 0 = 4 from rfl) (show shN 0 = 19 from rfl) rfl (Nat.le_of_ble_eq_true rfl) ing0 mw_558 (fv_sg rfl rfl rfl) d_WF_law_58 ?_
        obtain ⟨q8, hq8, hT⟩ := q_obind hT
        refine r_backV F hS (r_runV (k := 177) (N := 9) (T := T4) (As := [.ref (b + ((M.1 0 4).toNat)), .ref (b + 47)]) F hS (show 177 < 191 by decide) (show shK 177 = 8 from rfl) rfl (c_Laws_measure l F.2.2.1 M ((M.1 0 4).toNat) 47 h7 (by decide : isScene 47) _ hq8) gs_WF_214 hd_Laws_measure ⟨Nat.le_of_ble_eq_true rfl, Nat.le_of_ble_eq_true rfl⟩ rfl hl.1 (Nat.le_of_ble_eq_true rfl) ⟨Nat.zero_le _, Nat.zero_le _⟩ rfl d_WF_law_61) (fun H locs hS => ?_)
        refine lv_aload_n F.hx F.hb d_WF_law_64 rfl (lv_at hl 0 rfl) ?_
        refine r_get (v := .ref (b + 177)) (N := 19) (T := T0) (j := 16) F hS (show 0 < 191 by decide) (show shK 0 = 4 from rfl) (show shN 0 = 19 from rfl) rfl (Nat.le_of_ble_eq_true rfl) ing0 mw_566 (fv_sg rfl rfl rfl) d_WF_law_65 ?_
        refine lv_aload_n F.hx F.hb d_WF_law_68 rfl (lv_at hl 0 rfl) ?_
        have h10 := St_town hS
        refine r_get (v := .ref (b + ((q8.1 0 4).toNat))) (N := 19) (T := T0) (j := 4) F hS (show 0 < 191 by decide) (show shK 0 = 4 from rfl) (show shN 0 = 19 from rfl) rfl (Nat.le_of_ble_eq_true rfl) ing0 mw_554 (fv_town hS) d_WF_law_69 ?_
        refine lv_iload_n F.hx F.hb d_WF_law_72 rfl (lv_at hl 2 rfl) ?_
        refine lv_aload_n F.hx F.hb d_WF_law_73 rfl (lv_at hl 0 rfl) ?_
        refine r_get (v := .ref (b + 62)) (N := 19) (T := T0) (j := 11) F hS (show 0 < 191 by decide) (show shK 0 = 4 from rfl) (show shN 0 = 19 from rfl) rfl (Nat.le_of_ble_eq_true rfl) ing0 mw_561 (fv_sg rfl rfl rfl) d_WF_law_74 ?_
        refine r_get (v := vI (q8.1 62 3)) (N := 6) (T := T2) (j := 3) F hS (show 62 < 191 by decide) (show shK 62 = 6 from rfl) (show shN 62 = 6 from rfl) rfl (Nat.le_of_ble_eq_true rfl) ing2 mw_321 (fv_int rfl) d_WF_law_77 ?_
        have i11 := hS.rng 62 3
        obtain ⟨q12, hq12, hT⟩ := q_obind hT
        refine r_backL F hS (r_runV (k := 177) (N := 9) (T := T4) (As := [.ref (b + ((q8.1 0 4).toNat)), vI x2, vI (q8.1 62 3)]) F hS (show 177 < 191 by decide) (show shK 177 = 8 from rfl) rfl (c_Laws_joyTold l F.2.2.1 q8 ((q8.1 0 4).toNat) x2 (q8.1 62 3) h10 hx2 i11 _ hq12) gs_WF_246 hd_Laws_joyTold ⟨Nat.le_of_ble_eq_true rfl, Nat.le_of_ble_eq_true rfl⟩ rfl hl.1 (Nat.le_of_ble_eq_true rfl) ⟨Nat.zero_le _, Nat.zero_le _⟩ rfl d_WF_law_80) (fun H locs hS => ?_)
        cases hT
        exact r_lret F hlk hr hS d_WF_law_83
      · replace hT := (if_pos c6).symm.trans hT
        refine lv_ldc2 (v := (-9223372036854775808)) F.hx F.hb F.hown (F.hts mw_953) d_WF_law_45 ?_
        cases hT
        exact r_lret F hlk hr hS d_WF_law_48
  · replace hT := (if_pos c1).symm.trans hT
    refine lv_aload_n F.hx F.hb d_WF_law_4 rfl (lv_at hl 0 rfl) ?_
    refine r_get (v := .ref (b + 177)) (N := 19) (T := T0) (j := 16) F hS (show 0 < 191 by decide) (show shK 0 = 4 from rfl) (show shN 0 = 19 from rfl) rfl (Nat.le_of_ble_eq_true rfl) ing0 mw_566 (fv_sg rfl rfl rfl) d_WF_law_5 ?_
    refine lv_aload_n F.hx F.hb d_WF_law_8 rfl (lv_at hl 0 rfl) ?_
    have h14 := St_town hS
    refine r_get (v := .ref (b + ((M.1 0 4).toNat))) (N := 19) (T := T0) (j := 4) F hS (show 0 < 191 by decide) (show shK 0 = 4 from rfl) (show shN 0 = 19 from rfl) rfl (Nat.le_of_ble_eq_true rfl) ing0 mw_554 (fv_town hS) d_WF_law_9 ?_
    refine lv_aload_n F.hx F.hb d_WF_law_12 rfl (lv_at hl 0 rfl) ?_
    refine r_get (v := .ref (b + 47)) (N := 19) (T := T0) (j := 8) F hS (show 0 < 191 by decide) (show shK 0 = 4 from rfl) (show shN 0 = 19 from rfl) rfl (Nat.le_of_ble_eq_true rfl) ing0 mw_558 (fv_sg rfl rfl rfl) d_WF_law_13 ?_
    refine lv_iload_n F.hx F.hb d_WF_law_16 rfl (lv_at hl 2 rfl) ?_
    refine lv_iload_n F.hx F.hb d_WF_law_17 rfl (lv_at hl 3 rfl) ?_
    refine lv_aload_n F.hx F.hb d_WF_law_18 rfl (lv_at hl 0 rfl) ?_
    refine r_get (v := .ref (b + 62)) (N := 19) (T := T0) (j := 11) F hS (show 0 < 191 by decide) (show shK 0 = 4 from rfl) (show shN 0 = 19 from rfl) rfl (Nat.le_of_ble_eq_true rfl) ing0 mw_561 (fv_sg rfl rfl rfl) d_WF_law_19 ?_
    refine r_get (v := vI (M.1 62 3)) (N := 6) (T := T2) (j := 3) F hS (show 62 < 191 by decide) (show shK 62 = 6 from rfl) (show shN 62 = 6 from rfl) rfl (Nat.le_of_ble_eq_true rfl) ing2 mw_321 (fv_int rfl) d_WF_law_22 ?_
    have i15 := hS.rng 62 3
    obtain ⟨q16, hq16, hT⟩ := q_obind hT
    refine r_backL F hS (r_runV (k := 177) (N := 9) (T := T4) (As := [.ref (b + ((M.1 0 4).toNat)), .ref (b + 47), vI x2, vI x3, vI (M.1 62 3)]) F hS (show 177 < 191 by decide) (show shK 177 = 8 from rfl) rfl (c_Laws_pushFrom l F.2.2.1 M ((M.1 0 4).toNat) 47 x2 x3 (M.1 62 3) h14 (by decide : isScene 47) hx2 hx3 i15 _ hq16) gs_WF_240 hd_Laws_pushFrom ⟨Nat.le_of_ble_eq_true rfl, Nat.le_of_ble_eq_true rfl⟩ rfl hl.1 (Nat.le_of_ble_eq_true rfl) ⟨Nat.zero_le _, Nat.zero_le _⟩ rfl d_WF_law_25) (fun H locs hS => ?_)
    cases hT
    exact r_lret F hlk hr hS d_WF_law_28
theorem d_WF_isFree_0 : decode b_WF_isFree 0 = .ok (.aload_n 0, 1) := dc_42 (by decide +kernel)
theorem d_WF_isFree_1 : decode b_WF_isFree 1 = .ok (.getfield 22, 3) := dc_180 (by decide +kernel)
theorem d_WF_isFree_4 : decode b_WF_isFree 4 = .ok (.iload_n 1, 1) := dc_27 (by decide +kernel)
theorem d_WF_isFree_5 : decode b_WF_isFree 5 = .ok (.invokevirtual 150, 3) := dc_182 (by decide +kernel)
theorem d_WF_isFree_8 : decode b_WF_isFree 8 = .ok (.ifCond .eq 21, 3) := dc_153 (by decide +kernel)
theorem d_WF_isFree_11 : decode b_WF_isFree 11 = .ok (.aload_n 0, 1) := dc_42 (by decide +kernel)
theorem d_WF_isFree_12 : decode b_WF_isFree 12 = .ok (.getfield 46, 3) := dc_180 (by decide +kernel)
theorem d_WF_isFree_15 : decode b_WF_isFree 15 = .ok (.getfield 165, 3) := dc_180 (by decide +kernel)
theorem d_WF_isFree_18 : decode b_WF_isFree 18 = .ok (.iload_n 1, 1) := dc_27 (by decide +kernel)
theorem d_WF_isFree_19 : decode b_WF_isFree 19 = .ok (.invokestatic 169, 3) := dc_184 (by decide +kernel)
theorem d_WF_isFree_22 : decode b_WF_isFree 22 = .ok (.ifCond .ne 7, 3) := dc_154 (by decide +kernel)
theorem d_WF_isFree_25 : decode b_WF_isFree 25 = .ok (.iconst 1, 1) := dc_4 (by decide +kernel)
theorem d_WF_isFree_26 : decode b_WF_isFree 26 = .ok (.goto 4, 3) := dc_167 (by decide +kernel)
theorem d_WF_isFree_29 : decode b_WF_isFree 29 = .ok (.iconst 0, 1) := dc_3 (by decide +kernel)
theorem d_WF_isFree_30 : decode b_WF_isFree 30 = .ok (.ireturn, 1) := dc_172 (by decide +kernel)
def t_WF_isFree (M : Mem) (x1 : Int) : Int := (qlet (t_Town_hasCell M ((M.1 0 4).toNat) x1) fun q2 => (if q2 = 0 then 0 else (qlet (t_WF_bitOf M (M.2 47 4) x1) fun q5 => (if q5 = 0 then 1 else 0))))
set_option maxHeartbeats 4000000 in
set_option maxRecDepth 100000 in
theorem c_WF_isFree (l : Launch) {b n : Nat} {C : CT} (hlo : 191 ≤ n) (M : Mem) (x1 : Int) (hx1 : InR x1) (res : Int) (hT : t_WF_isFree M x1 = res) : CM l b C n 1 y_WF_isFree b_WF_isFree 2 (some .boolean) [.ref (b + 0), vI x1] M (QZ b C n M res) := by
  refine CM.of (lo := 191) (ow := "WardFalls") (by decide) rfl (Nat.le_of_ble_eq_true rfl) hlo (fun p e s m below meth c F hlk hr hS ls hl => ?_)
  have hl : lv_has ls 2 [(0, .ref (b + 0)), (1, vI x1)] := hl
  unfold t_WF_isFree at hT
  refine lv_aload_n F.hx F.hb d_WF_isFree_0 rfl (lv_at hl 0 rfl) ?_
  have h1 := St_town hS
  refine r_get (v := .ref (b + ((M.1 0 4).toNat))) (N := 19) (T := T0) (j := 4) F hS (show 0 < 191 by decide) (show shK 0 = 4 from rfl) (show shN 0 = 19 from rfl) rfl (Nat.le_of_ble_eq_true rfl) ing0 mw_554 (fv_town hS) d_WF_isFree_1 ?_
  refine lv_iload_n F.hx F.hb d_WF_isFree_4 rfl (lv_at hl 1 rfl) ?_
  obtain ⟨q2, hq2⟩ : ∃ q, q = (t_Town_hasCell M ((M.1 0 4).toNat) x1) := ⟨_, rfl⟩
  replace hT := qlet_eq hT hq2
  refine r_backZ F hS (r_runV (k := ((M.1 0 4).toNat)) (N := 20) (T := T11) (As := [vI x1]) F hS (Town_lt h1) (Town_sh h1) rfl (c_Town_hasCell l F.2.2.1 M ((M.1 0 4).toNat) x1 h1 hx1 _ hq2.symm) gs_WF_150 hd_Town_hasCell ⟨Nat.le_of_ble_eq_true rfl, Nat.le_of_ble_eq_true rfl⟩ rfl hl.1 (Nat.le_of_ble_eq_true rfl) ⟨Nat.zero_le _, Nat.zero_le _⟩ rfl d_WF_isFree_5) (fun H locs hS h3 => ?_)
  refine r_if_eq (tgt := 29) F.hx F.hb (inr_z h3) d_WF_isFree_8 (by decide) (fun c4 => ?_) (fun c4 => ?_)
  · replace hT := (if_pos c4).symm.trans hT
    refine r_iconst F.hx F.hb d_WF_isFree_29 ?_
    subst hT
    exact r_zret F hlk hr hS (Or.inl rfl) d_WF_isFree_30
  · replace hT := (if_neg c4).symm.trans hT
    refine lv_aload_n F.hx F.hb d_WF_isFree_11 rfl (lv_at hl 0 rfl) ?_
    refine r_get (v := .ref (b + 47)) (N := 19) (T := T0) (j := 8) F hS (show 0 < 191 by decide) (show shK 0 = 4 from rfl) (show shN 0 = 19 from rfl) rfl (Nat.le_of_ble_eq_true rfl) ing0 mw_558 (fv_sg rfl rfl rfl) d_WF_isFree_12 ?_
    refine r_get (v := .long (M.2 47 4)) (N := 7) (T := T9) (j := 4) F hS (show 47 < 191 by decide) (show shK 47 = 13 from rfl) (show shN 47 = 7 from rfl) rfl (Nat.le_of_ble_eq_true rfl) ing9 mw_287 (fv_long rfl) d_WF_isFree_15 ?_
    refine lv_iload_n F.hx F.hb d_WF_isFree_18 rfl (lv_at hl 1 rfl) ?_
    obtain ⟨q5, hq5⟩ : ∃ q, q = (t_WF_bitOf M (M.2 47 4) x1) := ⟨_, rfl⟩
    replace hT := qlet_eq hT hq5
    refine r_backI F hS (r_runS (As := [.long (M.2 47 4), vI x1]) F hS (c_WF_bitOf l F.2.2.1 M (M.2 47 4) x1 hx1 _ hq5.symm) gs_WF_169 hd_WF_bitOf ⟨Nat.le_of_ble_eq_true rfl, Nat.le_of_ble_eq_true rfl⟩ rfl hl.1 (Nat.le_of_ble_eq_true rfl) ⟨Nat.zero_le _, Nat.zero_le _⟩ rfl d_WF_isFree_19) (fun H locs hS h6 => ?_)
    refine r_if_ne (tgt := 29) F.hx F.hb h6 d_WF_isFree_22 (by decide) (fun c7 => ?_) (fun c7 => ?_)
    · replace hT := (if_neg c7).symm.trans hT
      refine r_iconst F.hx F.hb d_WF_isFree_29 ?_
      subst hT
      exact r_zret F hlk hr hS (Or.inl rfl) d_WF_isFree_30
    · replace hT := (if_pos c7).symm.trans hT
      refine r_iconst F.hx F.hb d_WF_isFree_25 ?_
      refine lv_goto (tgt := 30) F.hx F.hb d_WF_isFree_26 (by decide) ?_
      subst hT
      exact r_zret F hlk hr hS (Or.inr rfl) d_WF_isFree_30
theorem d_WF_rest_0 : decode b_WF_rest 0 = .ok (.aload_n 0, 1) := dc_42 (by decide +kernel)
theorem d_WF_rest_1 : decode b_WF_rest 1 = .ok (.iload_n 1, 1) := dc_27 (by decide +kernel)
theorem d_WF_rest_2 : decode b_WF_rest 2 = .ok (.invokevirtual 250, 3) := dc_182 (by decide +kernel)
theorem d_WF_rest_5 : decode b_WF_rest 5 = .ok (.ifCond .ne 5, 3) := dc_154 (by decide +kernel)
theorem d_WF_rest_8 : decode b_WF_rest 8 = .ok (.iconst (-1), 1) := dc_2 (by decide +kernel)
theorem d_WF_rest_9 : decode b_WF_rest 9 = .ok (.ireturn, 1) := dc_172 (by decide +kernel)
theorem d_WF_rest_10 : decode b_WF_rest 10 = .ok (.aload_n 0, 1) := dc_42 (by decide +kernel)
theorem d_WF_rest_11 : decode b_WF_rest 11 = .ok (.getfield 97, 3) := dc_180 (by decide +kernel)
theorem d_WF_rest_14 : decode b_WF_rest 14 = .ok (.aload_n 0, 1) := dc_42 (by decide +kernel)
theorem d_WF_rest_15 : decode b_WF_rest 15 = .ok (.getfield 22, 3) := dc_180 (by decide +kernel)
theorem d_WF_rest_18 : decode b_WF_rest 18 = .ok (.aload_n 0, 1) := dc_42 (by decide +kernel)
theorem d_WF_rest_19 : decode b_WF_rest 19 = .ok (.getfield 46, 3) := dc_180 (by decide +kernel)
theorem d_WF_rest_22 : decode b_WF_rest 22 = .ok (.iload_n 1, 1) := dc_27 (by decide +kernel)
theorem d_WF_rest_23 : decode b_WF_rest 23 = .ok (.invokevirtual 253, 3) := dc_182 (by decide +kernel)
theorem d_WF_rest_26 : decode b_WF_rest 26 = .ok (.aload_n 0, 1) := dc_42 (by decide +kernel)
theorem d_WF_rest_27 : decode b_WF_rest 27 = .ok (.getfield 97, 3) := dc_180 (by decide +kernel)
theorem d_WF_rest_30 : decode b_WF_rest 30 = .ok (.invokevirtual 257, 3) := dc_182 (by decide +kernel)
theorem d_WF_rest_33 : decode b_WF_rest 33 = .ok (.ireturn, 1) := dc_172 (by decide +kernel)
def t_WF_rest (M : Mem) (x1 : Int) : Option (Mem × Int) := (qlet (t_WF_isFree M x1) fun q1 => (if q1 = 0 then (some (M, (-1))) else (obind (t_Trail_follow M 189 ((M.1 0 4).toNat) 47 x1) fun q5 => (qlet (t_Trail_end q5 189) fun q7 => (some (q5, q7))))))
set_option maxHeartbeats 4000000 in
set_option maxRecDepth 100000 in
theorem c_WF_rest (l : Launch) {b n : Nat} {C : CT} (hlo : 191 ≤ n) (M : Mem) (x1 : Int) (hx1 : InR x1) (res : Mem × Int) (hT : t_WF_rest M x1 = some res) : CM l b C n 4 y_WF_rest b_WF_rest 2 (some .int) [.ref (b + 0), vI x1] M (QI b C n res.1 res.2) := by
  refine CM.of (lo := 191) (ow := "WardFalls") (by decide) rfl (Nat.le_of_ble_eq_true rfl) hlo (fun p e s m below meth c F hlk hr hS ls hl => ?_)
  have hl : lv_has ls 2 [(0, .ref (b + 0)), (1, vI x1)] := hl
  unfold t_WF_rest at hT
  refine lv_aload_n F.hx F.hb d_WF_rest_0 rfl (lv_at hl 0 rfl) ?_
  refine lv_iload_n F.hx F.hb d_WF_rest_1 rfl (lv_at hl 1 rfl) ?_
  obtain ⟨q1, hq1⟩ : ∃ q, q = (t_WF_isFree M x1) := ⟨_, rfl⟩
  replace hT := qlet_eq hT hq1
  refine r_backZ F hS (r_runV (k := 0) (N := 19) (T := T0) (As := [vI x1]) F hS (show 0 < 191 by decide) (show shK 0 = 4 from rfl) rfl (c_WF_isFree l F.2.2.1 M x1 hx1 _ hq1.symm) gs_WF_250 hd_WF_isFree ⟨Nat.le_of_ble_eq_true rfl, Nat.le_of_ble_eq_true rfl⟩ rfl hl.1 (Nat.le_of_ble_eq_true rfl) ⟨Nat.zero_le _, Nat.zero_le _⟩ rfl d_WF_rest_2) (fun H locs hS h2 => ?_)
  refine r_if_ne (tgt := 10) F.hx F.hb (inr_z h2) d_WF_rest_5 (by decide) (fun c3 => ?_) (fun c3 => ?_)
  · replace hT := (if_neg c3).symm.trans hT
    refine lv_aload_n F.hx F.hb d_WF_rest_10 rfl (lv_at hl 0 rfl) ?_
    refine r_get (v := .ref (b + 189)) (N := 19) (T := T0) (j := 18) F hS (show 0 < 191 by decide) (show shK 0 = 4 from rfl) (show shN 0 = 19 from rfl) rfl (Nat.le_of_ble_eq_true rfl) ing0 mw_568 (fv_sg rfl rfl rfl) d_WF_rest_11 ?_
    refine lv_aload_n F.hx F.hb d_WF_rest_14 rfl (lv_at hl 0 rfl) ?_
    have h4 := St_town hS
    refine r_get (v := .ref (b + ((M.1 0 4).toNat))) (N := 19) (T := T0) (j := 4) F hS (show 0 < 191 by decide) (show shK 0 = 4 from rfl) (show shN 0 = 19 from rfl) rfl (Nat.le_of_ble_eq_true rfl) ing0 mw_554 (fv_town hS) d_WF_rest_15 ?_
    refine lv_aload_n F.hx F.hb d_WF_rest_18 rfl (lv_at hl 0 rfl) ?_
    refine r_get (v := .ref (b + 47)) (N := 19) (T := T0) (j := 8) F hS (show 0 < 191 by decide) (show shK 0 = 4 from rfl) (show shN 0 = 19 from rfl) rfl (Nat.le_of_ble_eq_true rfl) ing0 mw_558 (fv_sg rfl rfl rfl) d_WF_rest_19 ?_
    refine lv_iload_n F.hx F.hb d_WF_rest_22 rfl (lv_at hl 1 rfl) ?_
    obtain ⟨q5, hq5, hT⟩ := q_obind hT
    refine r_backV F hS (r_runV (k := 189) (N := 9) (T := T12) (As := [.ref (b + ((M.1 0 4).toNat)), .ref (b + 47), vI x1]) F hS (show 189 < 191 by decide) (show shK 189 = 16 from rfl) rfl (c_Trail_follow l F.2.2.1 M 189 ((M.1 0 4).toNat) 47 x1 (by decide : isTrail 189) h4 (by decide : isScene 47) hx1 _ hq5) gs_WF_253 hd_Trail_follow ⟨Nat.le_of_ble_eq_true rfl, Nat.le_of_ble_eq_true rfl⟩ rfl hl.1 (Nat.le_of_ble_eq_true rfl) ⟨Nat.zero_le _, Nat.zero_le _⟩ rfl d_WF_rest_23) (fun H locs hS => ?_)
    refine lv_aload_n F.hx F.hb d_WF_rest_26 rfl (lv_at hl 0 rfl) ?_
    refine r_get (v := .ref (b + 189)) (N := 19) (T := T0) (j := 18) F hS (show 0 < 191 by decide) (show shK 0 = 4 from rfl) (show shN 0 = 19 from rfl) rfl (Nat.le_of_ble_eq_true rfl) ing0 mw_568 (fv_sg rfl rfl rfl) d_WF_rest_27 ?_
    obtain ⟨q7, hq7⟩ : ∃ q, q = (t_Trail_end q5 189) := ⟨_, rfl⟩
    replace hT := qlet_eq hT hq7
    refine r_backI F hS (r_runV (k := 189) (N := 9) (T := T12) (As := []) F hS (show 189 < 191 by decide) (show shK 189 = 16 from rfl) rfl (c_Trail_end l F.2.2.1 q5 189 (by decide : isTrail 189) _ hq7.symm) gs_WF_257 hd_Trail_end ⟨Nat.le_of_ble_eq_true rfl, Nat.le_of_ble_eq_true rfl⟩ rfl hl.1 (Nat.le_of_ble_eq_true rfl) ⟨Nat.zero_le _, Nat.zero_le _⟩ rfl d_WF_rest_30) (fun H locs hS h8 => ?_)
    cases hT
    exact r_iret F hlk hr rfl hS h8 d_WF_rest_33
  · replace hT := (if_pos c3).symm.trans hT
    refine r_iconst F.hx F.hb d_WF_rest_8 ?_
    cases hT
    exact r_iret F hlk hr rfl hS (inr_c rfl) d_WF_rest_9
theorem d_Trail_cellAt_0 : decode b_Trail_cellAt 0 = .ok (.iload_n 1, 1) := dc_27 (by decide +kernel)
theorem d_Trail_cellAt_1 : decode b_Trail_cellAt 1 = .ok (.aload_n 0, 1) := dc_42 (by decide +kernel)
theorem d_Trail_cellAt_2 : decode b_Trail_cellAt 2 = .ok (.getfield 15, 3) := dc_180 (by decide +kernel)
theorem d_Trail_cellAt_5 : decode b_Trail_cellAt 5 = .ok (.if_icmp .ge 12, 3) := dc_162 (by decide +kernel)
theorem d_Trail_cellAt_8 : decode b_Trail_cellAt 8 = .ok (.aload_n 0, 1) := dc_42 (by decide +kernel)
theorem d_Trail_cellAt_9 : decode b_Trail_cellAt 9 = .ok (.getfield 9, 3) := dc_180 (by decide +kernel)
theorem d_Trail_cellAt_12 : decode b_Trail_cellAt 12 = .ok (.iload_n 1, 1) := dc_27 (by decide +kernel)
theorem d_Trail_cellAt_13 : decode b_Trail_cellAt 13 = .ok (.invokestatic 52, 3) := dc_184 (by decide +kernel)
theorem d_Trail_cellAt_16 : decode b_Trail_cellAt 16 = .ok (.ireturn, 1) := dc_172 (by decide +kernel)
theorem d_Trail_cellAt_17 : decode b_Trail_cellAt 17 = .ok (.aload_n 0, 1) := dc_42 (by decide +kernel)
theorem d_Trail_cellAt_18 : decode b_Trail_cellAt 18 = .ok (.getfield 19, 3) := dc_180 (by decide +kernel)
theorem d_Trail_cellAt_21 : decode b_Trail_cellAt 21 = .ok (.ifCond .le 29, 3) := dc_158 (by decide +kernel)
theorem d_Trail_cellAt_24 : decode b_Trail_cellAt 24 = .ok (.aload_n 0, 1) := dc_42 (by decide +kernel)
theorem d_Trail_cellAt_25 : decode b_Trail_cellAt 25 = .ok (.getfield 9, 3) := dc_180 (by decide +kernel)
theorem d_Trail_cellAt_28 : decode b_Trail_cellAt 28 = .ok (.aload_n 0, 1) := dc_42 (by decide +kernel)
theorem d_Trail_cellAt_29 : decode b_Trail_cellAt 29 = .ok (.getfield 29, 3) := dc_180 (by decide +kernel)
theorem d_Trail_cellAt_32 : decode b_Trail_cellAt 32 = .ok (.iload_n 1, 1) := dc_27 (by decide +kernel)
theorem d_Trail_cellAt_33 : decode b_Trail_cellAt 33 = .ok (.aload_n 0, 1) := dc_42 (by decide +kernel)
theorem d_Trail_cellAt_34 : decode b_Trail_cellAt 34 = .ok (.getfield 29, 3) := dc_180 (by decide +kernel)
theorem d_Trail_cellAt_37 : decode b_Trail_cellAt 37 = .ok (.isub, 1) := dc_100 (by decide +kernel)
theorem d_Trail_cellAt_38 : decode b_Trail_cellAt 38 = .ok (.aload_n 0, 1) := dc_42 (by decide +kernel)
theorem d_Trail_cellAt_39 : decode b_Trail_cellAt 39 = .ok (.getfield 19, 3) := dc_180 (by decide +kernel)
theorem d_Trail_cellAt_42 : decode b_Trail_cellAt 42 = .ok (.irem, 1) := dc_112 (by decide +kernel)
theorem d_Trail_cellAt_43 : decode b_Trail_cellAt 43 = .ok (.iadd, 1) := dc_96 (by decide +kernel)
theorem d_Trail_cellAt_44 : decode b_Trail_cellAt 44 = .ok (.invokestatic 52, 3) := dc_184 (by decide +kernel)
theorem d_Trail_cellAt_47 : decode b_Trail_cellAt 47 = .ok (.goto 5, 3) := dc_167 (by decide +kernel)
theorem d_Trail_cellAt_50 : decode b_Trail_cellAt 50 = .ok (.bipush (-2), 2) := dc_16 (by decide +kernel)
theorem d_Trail_cellAt_52 : decode b_Trail_cellAt 52 = .ok (.ireturn, 1) := dc_172 (by decide +kernel)
def t_Trail_cellAt (M : Mem) (k0 : Nat) (x1 : Int) : Option (Int) := (if (M.1 k0 1) ≤ x1 then (if (M.1 k0 3) ≤ 0 then (some (-2)) else (if (M.1 k0 3) = 0 then none else (qlet (t_WF_look M (k0 + 1) 48 (w32 ((M.1 k0 2) + (q_rem (w32 (x1 - (M.1 k0 2))) (M.1 k0 3))))) fun q9 => (some q9)))) else (qlet (t_WF_look M (k0 + 1) 48 x1) fun q11 => (some q11)))
set_option maxHeartbeats 4000000 in
set_option maxRecDepth 100000 in
theorem c_Trail_cellAt (l : Launch) {b n : Nat} {C : CT} (hlo : 191 ≤ n) (M : Mem) (k0 : Nat) (x1 : Int) (hk0 : isTrail k0) (hx1 : InR x1) (res : Int) (hT : t_Trail_cellAt M k0 x1 = some res) : CM l b C n 1 y_Trail_cellAt b_Trail_cellAt 2 (some .int) [.ref (b + k0), vI x1] M (QI b C n M res) := by
  refine CM.of (lo := 191) (ow := "WardFalls$Trail") (by decide) rfl (Nat.le_of_ble_eq_true rfl) hlo (fun p e s m below meth c F hlk hr hS ls hl => ?_)
  have hl : lv_has ls 2 [(0, .ref (b + k0)), (1, vI x1)] := hl
  unfold t_Trail_cellAt at hT
  refine lv_iload_n F.hx F.hb d_Trail_cellAt_0 rfl (lv_at hl 1 rfl) ?_
  refine lv_aload_n F.hx F.hb d_Trail_cellAt_1 rfl (lv_at hl 0 rfl) ?_
  refine r_get (v := vI (M.1 k0 1)) (N := 9) (T := T12) (j := 1) F hS (Trail_lt hk0) (Trail_sh hk0) (Trail_N hk0) rfl (Nat.le_of_ble_eq_true rfl) ing12 mw_403 (fv_int rfl) d_Trail_cellAt_2 ?_
  have i1 := hS.rng k0 1
  refine r_icmp_ge (tgt := 17) F.hx F.hb hx1 i1 d_Trail_cellAt_5 (by decide) (fun c2 => ?_) (fun c2 => ?_)
  · replace hT := (if_pos c2).symm.trans hT
    refine lv_aload_n F.hx F.hb d_Trail_cellAt_17 rfl (lv_at hl 0 rfl) ?_
    refine r_get (v := vI (M.1 k0 3)) (N := 9) (T := T12) (j := 3) F hS (Trail_lt hk0) (Trail_sh hk0) (Trail_N hk0) rfl (Nat.le_of_ble_eq_true rfl) ing12 mw_406 (fv_int rfl) d_Trail_cellAt_18 ?_
    have i3 := hS.rng k0 3
    refine r_if_le (tgt := 50) F.hx F.hb i3 d_Trail_cellAt_21 (by decide) (fun c4 => ?_) (fun c4 => ?_)
    · replace hT := (if_pos c4).symm.trans hT
      refine r_bipush F.hx F.hb d_Trail_cellAt_50 rfl ?_
      cases hT
      exact r_iret F hlk hr rfl hS (inr_c rfl) d_Trail_cellAt_52
    · replace hT := (if_neg c4).symm.trans hT
      refine lv_aload_n F.hx F.hb d_Trail_cellAt_24 rfl (lv_at hl 0 rfl) ?_
      refine r_get (v := .ref (b + (k0 + 1))) (N := 9) (T := T12) (j := 0) F hS (Trail_lt hk0) (Trail_sh hk0) (Trail_N hk0) rfl (Nat.le_of_ble_eq_true rfl) ing12 mw_402 (Trail_g0 hk0 _) d_Trail_cellAt_25 ?_
      refine lv_aload_n F.hx F.hb d_Trail_cellAt_28 rfl (lv_at hl 0 rfl) ?_
      refine r_get (v := vI (M.1 k0 2)) (N := 9) (T := T12) (j := 2) F hS (Trail_lt hk0) (Trail_sh hk0) (Trail_N hk0) rfl (Nat.le_of_ble_eq_true rfl) ing12 mw_404 (fv_int rfl) d_Trail_cellAt_29 ?_
      have i5 := hS.rng k0 2
      refine lv_iload_n F.hx F.hb d_Trail_cellAt_32 rfl (lv_at hl 1 rfl) ?_
      refine lv_aload_n F.hx F.hb d_Trail_cellAt_33 rfl (lv_at hl 0 rfl) ?_
      refine r_get (v := vI (M.1 k0 2)) (N := 9) (T := T12) (j := 2) F hS (Trail_lt hk0) (Trail_sh hk0) (Trail_N hk0) rfl (Nat.le_of_ble_eq_true rfl) ing12 mw_404 (fv_int rfl) d_Trail_cellAt_34 ?_
      have i6 := hS.rng k0 2
      refine r_isub F.hx F.hb d_Trail_cellAt_37 ?_
      refine lv_aload_n F.hx F.hb d_Trail_cellAt_38 rfl (lv_at hl 0 rfl) ?_
      refine r_get (v := vI (M.1 k0 3)) (N := 9) (T := T12) (j := 3) F hS (Trail_lt hk0) (Trail_sh hk0) (Trail_N hk0) rfl (Nat.le_of_ble_eq_true rfl) ing12 mw_406 (fv_int rfl) d_Trail_cellAt_39 ?_
      have i7 := hS.rng k0 3
      obtain ⟨c8, hT⟩ := q_guardn hT
      refine r_irem F.hx F.hb i7 c8 d_Trail_cellAt_42 ?_
      refine r_iadd F.hx F.hb d_Trail_cellAt_43 ?_
      obtain ⟨q9, hq9⟩ : ∃ q, q = (t_WF_look M (k0 + 1) 48 (w32 ((M.1 k0 2) + (q_rem (w32 (x1 - (M.1 k0 2))) (M.1 k0 3))))) := ⟨_, rfl⟩
      replace hT := qlet_eq hT hq9
      refine r_backI F hS (r_runSN (As := [.ref (b + (k0 + 1)), vI (w32 ((M.1 k0 2) + (q_rem (w32 (x1 - (M.1 k0 2))) (M.1 k0 3))))]) F hS (c_WF_look l F.2.2.1 M (k0 + 1) 48 (w32 ((M.1 k0 2) + (q_rem (w32 (x1 - (M.1 k0 2))) (M.1 k0 3)))) (Trail_f0 hk0) (inr_w32 _) _ hq9.symm) mw_519 mw_518 mw_1 gs_Trail_52 hd_WF_look ⟨Nat.le_of_ble_eq_true rfl, Nat.le_of_ble_eq_true rfl⟩ rfl hl.1 (Nat.le_of_ble_eq_true rfl) ⟨Nat.zero_le _, Nat.zero_le _⟩ rfl d_Trail_cellAt_44) (fun H locs hS h10 => ?_)
      refine lv_goto (tgt := 52) F.hx F.hb d_Trail_cellAt_47 (by decide) ?_
      cases hT
      exact r_iret F hlk hr rfl hS h10 d_Trail_cellAt_52
  · replace hT := (if_neg c2).symm.trans hT
    refine lv_aload_n F.hx F.hb d_Trail_cellAt_8 rfl (lv_at hl 0 rfl) ?_
    refine r_get (v := .ref (b + (k0 + 1))) (N := 9) (T := T12) (j := 0) F hS (Trail_lt hk0) (Trail_sh hk0) (Trail_N hk0) rfl (Nat.le_of_ble_eq_true rfl) ing12 mw_402 (Trail_g0 hk0 _) d_Trail_cellAt_9 ?_
    refine lv_iload_n F.hx F.hb d_Trail_cellAt_12 rfl (lv_at hl 1 rfl) ?_
    obtain ⟨q11, hq11⟩ : ∃ q, q = (t_WF_look M (k0 + 1) 48 x1) := ⟨_, rfl⟩
    replace hT := qlet_eq hT hq11
    refine r_backI F hS (r_runSN (As := [.ref (b + (k0 + 1)), vI x1]) F hS (c_WF_look l F.2.2.1 M (k0 + 1) 48 x1 (Trail_f0 hk0) hx1 _ hq11.symm) mw_519 mw_518 mw_1 gs_Trail_52 hd_WF_look ⟨Nat.le_of_ble_eq_true rfl, Nat.le_of_ble_eq_true rfl⟩ rfl hl.1 (Nat.le_of_ble_eq_true rfl) ⟨Nat.zero_le _, Nat.zero_le _⟩ rfl d_Trail_cellAt_13) (fun H locs hS h12 => ?_)
    cases hT
    exact r_iret F hlk hr rfl hS h12 d_Trail_cellAt_16
theorem d_WF_way_0 : decode b_WF_way 0 = .ok (.aload_n 0, 1) := dc_42 (by decide +kernel)
theorem d_WF_way_1 : decode b_WF_way 1 = .ok (.iload_n 1, 1) := dc_27 (by decide +kernel)
theorem d_WF_way_2 : decode b_WF_way 2 = .ok (.invokevirtual 250, 3) := dc_182 (by decide +kernel)
theorem d_WF_way_5 : decode b_WF_way 5 = .ok (.ifCond .eq 7, 3) := dc_153 (by decide +kernel)
theorem d_WF_way_8 : decode b_WF_way 8 = .ok (.iload_n 2, 1) := dc_28 (by decide +kernel)
theorem d_WF_way_9 : decode b_WF_way 9 = .ok (.ifCond .ge 5, 3) := dc_156 (by decide +kernel)
theorem d_WF_way_12 : decode b_WF_way 12 = .ok (.iconst (-1), 1) := dc_2 (by decide +kernel)
theorem d_WF_way_13 : decode b_WF_way 13 = .ok (.ireturn, 1) := dc_172 (by decide +kernel)
theorem d_WF_way_14 : decode b_WF_way 14 = .ok (.aload_n 0, 1) := dc_42 (by decide +kernel)
theorem d_WF_way_15 : decode b_WF_way 15 = .ok (.getfield 97, 3) := dc_180 (by decide +kernel)
theorem d_WF_way_18 : decode b_WF_way 18 = .ok (.aload_n 0, 1) := dc_42 (by decide +kernel)
theorem d_WF_way_19 : decode b_WF_way 19 = .ok (.getfield 22, 3) := dc_180 (by decide +kernel)
theorem d_WF_way_22 : decode b_WF_way 22 = .ok (.aload_n 0, 1) := dc_42 (by decide +kernel)
theorem d_WF_way_23 : decode b_WF_way 23 = .ok (.getfield 46, 3) := dc_180 (by decide +kernel)
theorem d_WF_way_26 : decode b_WF_way 26 = .ok (.iload_n 1, 1) := dc_27 (by decide +kernel)
theorem d_WF_way_27 : decode b_WF_way 27 = .ok (.invokevirtual 253, 3) := dc_182 (by decide +kernel)
theorem d_WF_way_30 : decode b_WF_way 30 = .ok (.aload_n 0, 1) := dc_42 (by decide +kernel)
theorem d_WF_way_31 : decode b_WF_way 31 = .ok (.getfield 97, 3) := dc_180 (by decide +kernel)
theorem d_WF_way_34 : decode b_WF_way 34 = .ok (.iload_n 2, 1) := dc_28 (by decide +kernel)
theorem d_WF_way_35 : decode b_WF_way 35 = .ok (.invokevirtual 261, 3) := dc_182 (by decide +kernel)
theorem d_WF_way_38 : decode b_WF_way 38 = .ok (.ireturn, 1) := dc_172 (by decide +kernel)
def t_WF_way (M : Mem) (x1 : Int) (x2 : Int) : Option (Mem × Int) := (qlet (t_WF_isFree M x1) fun q1 => (if q1 = 0 then (some (M, (-1))) else (if 0 ≤ x2 then (obind (t_Trail_follow M 189 ((M.1 0 4).toNat) 47 x1) fun q6 => (obind (t_Trail_cellAt q6 189 x2) fun q8 => (some (q6, q8)))) else (some (M, (-1))))))
set_option maxHeartbeats 4000000 in
set_option maxRecDepth 100000 in
theorem c_WF_way (l : Launch) {b n : Nat} {C : CT} (hlo : 191 ≤ n) (M : Mem) (x1 : Int) (x2 : Int) (hx1 : InR x1) (hx2 : InR x2) (res : Mem × Int) (hT : t_WF_way M x1 x2 = some res) : CM l b C n 4 y_WF_way b_WF_way 3 (some .int) [.ref (b + 0), vI x1, vI x2] M (QI b C n res.1 res.2) := by
  refine CM.of (lo := 191) (ow := "WardFalls") (by decide) rfl (Nat.le_of_ble_eq_true rfl) hlo (fun p e s m below meth c F hlk hr hS ls hl => ?_)
  have hl : lv_has ls 3 [(0, .ref (b + 0)), (1, vI x1), (2, vI x2)] := hl
  unfold t_WF_way at hT
  refine lv_aload_n F.hx F.hb d_WF_way_0 rfl (lv_at hl 0 rfl) ?_
  refine lv_iload_n F.hx F.hb d_WF_way_1 rfl (lv_at hl 1 rfl) ?_
  obtain ⟨q1, hq1⟩ : ∃ q, q = (t_WF_isFree M x1) := ⟨_, rfl⟩
  replace hT := qlet_eq hT hq1
  refine r_backZ F hS (r_runV (k := 0) (N := 19) (T := T0) (As := [vI x1]) F hS (show 0 < 191 by decide) (show shK 0 = 4 from rfl) rfl (c_WF_isFree l F.2.2.1 M x1 hx1 _ hq1.symm) gs_WF_250 hd_WF_isFree ⟨Nat.le_of_ble_eq_true rfl, Nat.le_of_ble_eq_true rfl⟩ rfl hl.1 (Nat.le_of_ble_eq_true rfl) ⟨Nat.zero_le _, Nat.zero_le _⟩ rfl d_WF_way_2) (fun H locs hS h2 => ?_)
  refine r_if_eq (tgt := 12) F.hx F.hb (inr_z h2) d_WF_way_5 (by decide) (fun c3 => ?_) (fun c3 => ?_)
  · replace hT := (if_pos c3).symm.trans hT
    refine r_iconst F.hx F.hb d_WF_way_12 ?_
    cases hT
    exact r_iret F hlk hr rfl hS (inr_c rfl) d_WF_way_13
  · replace hT := (if_neg c3).symm.trans hT
    refine lv_iload_n F.hx F.hb d_WF_way_8 rfl (lv_at hl 2 rfl) ?_
    refine r_if_ge (tgt := 14) F.hx F.hb hx2 d_WF_way_9 (by decide) (fun c4 => ?_) (fun c4 => ?_)
    · replace hT := (if_pos c4).symm.trans hT
      refine lv_aload_n F.hx F.hb d_WF_way_14 rfl (lv_at hl 0 rfl) ?_
      refine r_get (v := .ref (b + 189)) (N := 19) (T := T0) (j := 18) F hS (show 0 < 191 by decide) (show shK 0 = 4 from rfl) (show shN 0 = 19 from rfl) rfl (Nat.le_of_ble_eq_true rfl) ing0 mw_568 (fv_sg rfl rfl rfl) d_WF_way_15 ?_
      refine lv_aload_n F.hx F.hb d_WF_way_18 rfl (lv_at hl 0 rfl) ?_
      have h5 := St_town hS
      refine r_get (v := .ref (b + ((M.1 0 4).toNat))) (N := 19) (T := T0) (j := 4) F hS (show 0 < 191 by decide) (show shK 0 = 4 from rfl) (show shN 0 = 19 from rfl) rfl (Nat.le_of_ble_eq_true rfl) ing0 mw_554 (fv_town hS) d_WF_way_19 ?_
      refine lv_aload_n F.hx F.hb d_WF_way_22 rfl (lv_at hl 0 rfl) ?_
      refine r_get (v := .ref (b + 47)) (N := 19) (T := T0) (j := 8) F hS (show 0 < 191 by decide) (show shK 0 = 4 from rfl) (show shN 0 = 19 from rfl) rfl (Nat.le_of_ble_eq_true rfl) ing0 mw_558 (fv_sg rfl rfl rfl) d_WF_way_23 ?_
      refine lv_iload_n F.hx F.hb d_WF_way_26 rfl (lv_at hl 1 rfl) ?_
      obtain ⟨q6, hq6, hT⟩ := q_obind hT
      refine r_backV F hS (r_runV (k := 189) (N := 9) (T := T12) (As := [.ref (b + ((M.1 0 4).toNat)), .ref (b + 47), vI x1]) F hS (show 189 < 191 by decide) (show shK 189 = 16 from rfl) rfl (c_Trail_follow l F.2.2.1 M 189 ((M.1 0 4).toNat) 47 x1 (by decide : isTrail 189) h5 (by decide : isScene 47) hx1 _ hq6) gs_WF_253 hd_Trail_follow ⟨Nat.le_of_ble_eq_true rfl, Nat.le_of_ble_eq_true rfl⟩ rfl hl.1 (Nat.le_of_ble_eq_true rfl) ⟨Nat.zero_le _, Nat.zero_le _⟩ rfl d_WF_way_27) (fun H locs hS => ?_)
      refine lv_aload_n F.hx F.hb d_WF_way_30 rfl (lv_at hl 0 rfl) ?_
      refine r_get (v := .ref (b + 189)) (N := 19) (T := T0) (j := 18) F hS (show 0 < 191 by decide) (show shK 0 = 4 from rfl) (show shN 0 = 19 from rfl) rfl (Nat.le_of_ble_eq_true rfl) ing0 mw_568 (fv_sg rfl rfl rfl) d_WF_way_31 ?_
      refine lv_iload_n F.hx F.hb d_WF_way_34 rfl (lv_at hl 2 rfl) ?_
      obtain ⟨q8, hq8, hT⟩ := q_obind hT
      refine r_backI F hS (r_runV (k := 189) (N := 9) (T := T12) (As := [vI x2]) F hS (show 189 < 191 by decide) (show shK 189 = 16 from rfl) rfl (c_Trail_cellAt l F.2.2.1 q6 189 x2 (by decide : isTrail 189) hx2 _ hq8) gs_WF_261 hd_Trail_cellAt ⟨Nat.le_of_ble_eq_true rfl, Nat.le_of_ble_eq_true rfl⟩ rfl hl.1 (Nat.le_of_ble_eq_true rfl) ⟨Nat.zero_le _, Nat.zero_le _⟩ rfl d_WF_way_35) (fun H locs hS h9 => ?_)
      cases hT
      exact r_iret F hlk hr rfl hS h9 d_WF_way_38
    · replace hT := (if_neg c4).symm.trans hT
      refine r_iconst F.hx F.hb d_WF_way_12 ?_
      cases hT
      exact r_iret F hlk hr rfl hS (inr_c rfl) d_WF_way_13
theorem d_WF_falls_0 : decode b_WF_falls 0 = .ok (.aload_n 0, 1) := dc_42 (by decide +kernel)
theorem d_WF_falls_1 : decode b_WF_falls 1 = .ok (.iload_n 1, 1) := dc_27 (by decide +kernel)
theorem d_WF_falls_2 : decode b_WF_falls 2 = .ok (.invokevirtual 250, 3) := dc_182 (by decide +kernel)
theorem d_WF_falls_5 : decode b_WF_falls 5 = .ok (.ifCond .ne 5, 3) := dc_154 (by decide +kernel)
theorem d_WF_falls_8 : decode b_WF_falls 8 = .ok (.iconst (-1), 1) := dc_2 (by decide +kernel)
theorem d_WF_falls_9 : decode b_WF_falls 9 = .ok (.ireturn, 1) := dc_172 (by decide +kernel)
theorem d_WF_falls_10 : decode b_WF_falls 10 = .ok (.aload_n 0, 1) := dc_42 (by decide +kernel)
theorem d_WF_falls_11 : decode b_WF_falls 11 = .ok (.getfield 97, 3) := dc_180 (by decide +kernel)
theorem d_WF_falls_14 : decode b_WF_falls 14 = .ok (.aload_n 0, 1) := dc_42 (by decide +kernel)
theorem d_WF_falls_15 : decode b_WF_falls 15 = .ok (.getfield 22, 3) := dc_180 (by decide +kernel)
theorem d_WF_falls_18 : decode b_WF_falls 18 = .ok (.aload_n 0, 1) := dc_42 (by decide +kernel)
theorem d_WF_falls_19 : decode b_WF_falls 19 = .ok (.getfield 46, 3) := dc_180 (by decide +kernel)
theorem d_WF_falls_22 : decode b_WF_falls 22 = .ok (.iload_n 1, 1) := dc_27 (by decide +kernel)
theorem d_WF_falls_23 : decode b_WF_falls 23 = .ok (.invokevirtual 253, 3) := dc_182 (by decide +kernel)
theorem d_WF_falls_26 : decode b_WF_falls 26 = .ok (.iload_n 2, 1) := dc_28 (by decide +kernel)
theorem d_WF_falls_27 : decode b_WF_falls 27 = .ok (.tableswitch 64 0 2 #[25, 33, 41], 25) := by decide +kernel
theorem d_WF_falls_52 : decode b_WF_falls 52 = .ok (.aload_n 0, 1) := dc_42 (by decide +kernel)
theorem d_WF_falls_53 : decode b_WF_falls 53 = .ok (.getfield 97, 3) := dc_180 (by decide +kernel)
theorem d_WF_falls_56 : decode b_WF_falls 56 = .ok (.getfield 264, 3) := dc_180 (by decide +kernel)
theorem d_WF_falls_59 : decode b_WF_falls 59 = .ok (.ireturn, 1) := dc_172 (by decide +kernel)
theorem d_WF_falls_60 : decode b_WF_falls 60 = .ok (.aload_n 0, 1) := dc_42 (by decide +kernel)
theorem d_WF_falls_61 : decode b_WF_falls 61 = .ok (.getfield 97, 3) := dc_180 (by decide +kernel)
theorem d_WF_falls_64 : decode b_WF_falls 64 = .ok (.getfield 267, 3) := dc_180 (by decide +kernel)
theorem d_WF_falls_67 : decode b_WF_falls 67 = .ok (.ireturn, 1) := dc_172 (by decide +kernel)
theorem d_WF_falls_68 : decode b_WF_falls 68 = .ok (.aload_n 0, 1) := dc_42 (by decide +kernel)
theorem d_WF_falls_69 : decode b_WF_falls 69 = .ok (.getfield 97, 3) := dc_180 (by decide +kernel)
theorem d_WF_falls_72 : decode b_WF_falls 72 = .ok (.getfield 267, 3) := dc_180 (by decide +kernel)
theorem d_WF_falls_75 : decode b_WF_falls 75 = .ok (.ifCond .le 8, 3) := dc_158 (by decide +kernel)
theorem d_WF_falls_78 : decode b_WF_falls 78 = .ok (.bipush (-2), 2) := dc_16 (by decide +kernel)
theorem d_WF_falls_80 : decode b_WF_falls 80 = .ok (.goto 10, 3) := dc_167 (by decide +kernel)
theorem d_WF_falls_83 : decode b_WF_falls 83 = .ok (.aload_n 0, 1) := dc_42 (by decide +kernel)
theorem d_WF_falls_84 : decode b_WF_falls 84 = .ok (.getfield 97, 3) := dc_180 (by decide +kernel)
theorem d_WF_falls_87 : decode b_WF_falls 87 = .ok (.getfield 270, 3) := dc_180 (by decide +kernel)
theorem d_WF_falls_90 : decode b_WF_falls 90 = .ok (.ireturn, 1) := dc_172 (by decide +kernel)
theorem d_WF_falls_91 : decode b_WF_falls 91 = .ok (.iconst (-1), 1) := dc_2 (by decide +kernel)
theorem d_WF_falls_92 : decode b_WF_falls 92 = .ok (.ireturn, 1) := dc_172 (by decide +kernel)
def t_WF_falls (M : Mem) (x1 : Int) (x2 : Int) : Option (Mem × Int) := (qlet (t_WF_isFree M x1) fun q1 => (if q1 = 0 then (some (M, (-1))) else (obind (t_Trail_follow M 189 ((M.1 0 4).toNat) 47 x1) fun q5 => (if x2 = 0 then (some (q5, (q5.1 189 2))) else (if x2 = 1 then (some (q5, (q5.1 189 3))) else (if x2 = 2 then (if (q5.1 189 3) ≤ 0 then (some (q5, (q5.1 189 4))) else (some (q5, (-2)))) else (some (q5, (-1)))))))))
set_option maxHeartbeats 4000000 in
set_option maxRecDepth 100000 in
theorem c_WF_falls (l : Launch) {b n : Nat} {C : CT} (hlo : 191 ≤ n) (M : Mem) (x1 : Int) (x2 : Int) (hx1 : InR x1) (hx2 : InR x2) (res : Mem × Int) (hT : t_WF_falls M x1 x2 = some res) : CM l b C n 4 y_WF_falls b_WF_falls 3 (some .int) [.ref (b + 0), vI x1, vI x2] M (QI b C n res.1 res.2) := by
  refine CM.of (lo := 191) (ow := "WardFalls") (by decide) rfl (Nat.le_of_ble_eq_true rfl) hlo (fun p e s m below meth c F hlk hr hS ls hl => ?_)
  have hl : lv_has ls 3 [(0, .ref (b + 0)), (1, vI x1), (2, vI x2)] := hl
  unfold t_WF_falls at hT
  refine lv_aload_n F.hx F.hb d_WF_falls_0 rfl (lv_at hl 0 rfl) ?_
  refine lv_iload_n F.hx F.hb d_WF_falls_1 rfl (lv_at hl 1 rfl) ?_
  obtain ⟨q1, hq1⟩ : ∃ q, q = (t_WF_isFree M x1) := ⟨_, rfl⟩
  replace hT := qlet_eq hT hq1
  refine r_backZ F hS (r_runV (k := 0) (N := 19) (T := T0) (As := [vI x1]) F hS (show 0 < 191 by decide) (show shK 0 = 4 from rfl) rfl (c_WF_isFree l F.2.2.1 M x1 hx1 _ hq1.symm) gs_WF_250 hd_WF_isFree ⟨Nat.le_of_ble_eq_true rfl, Nat.le_of_ble_eq_true rfl⟩ rfl hl.1 (Nat.le_of_ble_eq_true rfl) ⟨Nat.zero_le _, Nat.zero_le _⟩ rfl d_WF_falls_2) (fun H locs hS h2 => ?_)
  refine r_if_ne (tgt := 10) F.hx F.hb (inr_z h2) d_WF_falls_5 (by decide) (fun c3 => ?_) (fun c3 => ?_)
  · replace hT := (if_neg c3).symm.trans hT
    refine lv_aload_n F.hx F.hb d_WF_falls_10 rfl (lv_at hl 0 rfl) ?_
    refine r_get (v := .ref (b + 189)) (N := 19) (T := T0) (j := 18) F hS (show 0 < 191 by decide) (show shK 0 = 4 from rfl) (show shN 0 = 19 from rfl) rfl (Nat.le_of_ble_eq_true rfl) ing0 mw_568 (fv_sg rfl rfl rfl) d_WF_falls_11 ?_
    refine lv_aload_n F.hx F.hb d_WF_falls_14 rfl (lv_at hl 0 rfl) ?_
    have h4 := St_town hS
    refine r_get (v := .ref (b + ((M.1 0 4).toNat))) (N := 19) (T := T0) (j := 4) F hS (show 0 < 191 by decide) (show shK 0 = 4 from rfl) (show shN 0 = 19 from rfl) rfl (Nat.le_of_ble_eq_true rfl) ing0 mw_554 (fv_town hS) d_WF_falls_15 ?_
    refine lv_aload_n F.hx F.hb d_WF_falls_18 rfl (lv_at hl 0 rfl) ?_
    refine r_get (v := .ref (b + 47)) (N := 19) (T := T0) (j := 8) F hS (show 0 < 191 by decide) (show shK 0 = 4 from rfl) (show shN 0 = 19 from rfl) rfl (Nat.le_of_ble_eq_true rfl) ing0 mw_558 (fv_sg rfl rfl rfl) d_WF_falls_19 ?_
    refine lv_iload_n F.hx F.hb d_WF_falls_22 rfl (lv_at hl 1 rfl) ?_
    obtain ⟨q5, hq5, hT⟩ := q_obind hT
    refine r_backV F hS (r_runV (k := 189) (N := 9) (T := T12) (As := [.ref (b + ((M.1 0 4).toNat)), .ref (b + 47), vI x1]) F hS (show 189 < 191 by decide) (show shK 189 = 16 from rfl) rfl (c_Trail_follow l F.2.2.1 M 189 ((M.1 0 4).toNat) 47 x1 (by decide : isTrail 189) h4 (by decide : isScene 47) hx1 _ hq5) gs_WF_253 hd_Trail_follow ⟨Nat.le_of_ble_eq_true rfl, Nat.le_of_ble_eq_true rfl⟩ rfl hl.1 (Nat.le_of_ble_eq_true rfl) ⟨Nat.zero_le _, Nat.zero_le _⟩ rfl d_WF_falls_23) (fun H locs hS => ?_)
    refine lv_iload_n F.hx F.hb d_WF_falls_26 rfl (lv_at hl 2 rfl) ?_
    rcases q_ite hT with ⟨c7, hT⟩ | ⟨c7, hT⟩
    · refine r_tableIn (i := 0) (tgt := 52) F.hx F.hb hx2 c7 d_WF_falls_27 (by decide) (by decide) rfl (by decide) ?_
      refine lv_aload_n F.hx F.hb d_WF_falls_52 rfl (lv_at hl 0 rfl) ?_
      refine r_get (v := .ref (b + 189)) (N := 19) (T := T0) (j := 18) F hS (show 0 < 191 by decide) (show shK 0 = 4 from rfl) (show shN 0 = 19 from rfl) rfl (Nat.le_of_ble_eq_true rfl) ing0 mw_568 (fv_sg rfl rfl rfl) d_WF_falls_53 ?_
      refine r_get (v := vI (q5.1 189 2)) (N := 9) (T := T12) (j := 2) F hS (show 189 < 191 by decide) (show shK 189 = 16 from rfl) (show shN 189 = 9 from rfl) rfl (Nat.le_of_ble_eq_true rfl) ing12 mw_405 (fv_int rfl) d_WF_falls_56 ?_
      have i8 := hS.rng 189 2
      cases hT
      exact r_iret F hlk hr rfl hS i8 d_WF_falls_59
    ·
      rcases q_ite hT with ⟨c9, hT⟩ | ⟨c9, hT⟩
      · refine r_tableIn (i := 1) (tgt := 60) F.hx F.hb hx2 c9 d_WF_falls_27 (by decide) (by decide) rfl (by decide) ?_
        refine lv_aload_n F.hx F.hb d_WF_falls_60 rfl (lv_at hl 0 rfl) ?_
        refine r_get (v := .ref (b + 189)) (N := 19) (T := T0) (j := 18) F hS (show 0 < 191 by decide) (show shK 0 = 4 from rfl) (show shN 0 = 19 from rfl) rfl (Nat.le_of_ble_eq_true rfl) ing0 mw_568 (fv_sg rfl rfl rfl) d_WF_falls_61 ?_
        refine r_get (v := vI (q5.1 189 3)) (N := 9) (T := T12) (j := 3) F hS (show 189 < 191 by decide) (show shK 189 = 16 from rfl) (show shN 189 = 9 from rfl) rfl (Nat.le_of_ble_eq_true rfl) ing12 mw_407 (fv_int rfl) d_WF_falls_64 ?_
        have i10 := hS.rng 189 3
        cases hT
        exact r_iret F hlk hr rfl hS i10 d_WF_falls_67
      ·
        rcases q_ite hT with ⟨c11, hT⟩ | ⟨c11, hT⟩
        · refine r_tableIn (i := 2) (tgt := 68) F.hx F.hb hx2 c11 d_WF_falls_27 (by decide) (by decide) rfl (by decide) ?_
          refine lv_aload_n F.hx F.hb d_WF_falls_68 rfl (lv_at hl 0 rfl) ?_
          refine r_get (v := .ref (b + 189)) (N := 19) (T := T0) (j := 18) F hS (show 0 < 191 by decide) (show shK 0 = 4 from rfl) (show shN 0 = 19 from rfl) rfl (Nat.le_of_ble_eq_true rfl) ing0 mw_568 (fv_sg rfl rfl rfl) d_WF_falls_69 ?_
          refine r_get (v := vI (q5.1 189 3)) (N := 9) (T := T12) (j := 3) F hS (show 189 < 191 by decide) (show shK 189 = 16 from rfl) (show shN 189 = 9 from rfl) rfl (Nat.le_of_ble_eq_true rfl) ing12 mw_407 (fv_int rfl) d_WF_falls_72 ?_
          have i12 := hS.rng 189 3
          refine r_if_le (tgt := 83) F.hx F.hb i12 d_WF_falls_75 (by decide) (fun c13 => ?_) (fun c13 => ?_)
          · replace hT := (if_pos c13).symm.trans hT
            refine lv_aload_n F.hx F.hb d_WF_falls_83 rfl (lv_at hl 0 rfl) ?_
            refine r_get (v := .ref (b + 189)) (N := 19) (T := T0) (j := 18) F hS (show 0 < 191 by decide) (show shK 0 = 4 from rfl) (show shN 0 = 19 from rfl) rfl (Nat.le_of_ble_eq_true rfl) ing0 mw_568 (fv_sg rfl rfl rfl) d_WF_falls_84 ?_
            refine r_get (v := vI (q5.1 189 4)) (N := 9) (T := T12) (j := 4) F hS (show 189 < 191 by decide) (show shK 189 = 16 from rfl) (show shN 189 = 9 from rfl) rfl (Nat.le_of_ble_eq_true rfl) ing12 mw_410 (fv_int rfl) d_WF_falls_87 ?_
            have i14 := hS.rng 189 4
            cases hT
            exact r_iret F hlk hr rfl hS i14 d_WF_falls_90
          · replace hT := (if_neg c13).symm.trans hT
            refine r_bipush F.hx F.hb d_WF_falls_78 rfl ?_
            refine lv_goto (tgt := 90) F.hx F.hb d_WF_falls_80 (by decide) ?_
            cases hT
            exact r_iret F hlk hr rfl hS (inr_c rfl) d_WF_falls_90
        ·
          refine r_tableOut (tgt := 91) F.hx F.hb hx2 (by omega) d_WF_falls_27 (by decide) ?_
          refine r_iconst F.hx F.hb d_WF_falls_91 ?_
          cases hT
          exact r_iret F hlk hr rfl hS (inr_c rfl) d_WF_falls_92
  · replace hT := (if_pos c3).symm.trans hT
    refine r_iconst F.hx F.hb d_WF_falls_8 ?_
    cases hT
    exact r_iret F hlk hr rfl hS (inr_c rfl) d_WF_falls_9
theorem wn_Scene_beat_0 : ∀ i, i < 94 → bA b_Scene_beat (0 + i) = wB [3, 62, 3, 54, 4, 21, 4, 43, 180, 0, 72, 162, 0, 126, 42, 180, 0, 15, 21, 4, 184, 0, 56, 54, 5, 21, 5, 156, 0, 7, 2, 167, 0, 10, 42, 43, 21, 5, 182, 0, 83, 54, 6, 21, 6, 155, 0, 86, 28, 153, 0, 13, 42, 43, 21, 6, 182, 0, 86, 156, 0, 72, 42, 180, 0, 15, 21, 4, 21, 6, 184, 0, 89, 42, 180, 0, 18, 21, 4, 42, 180, 0, 18, 21, 4, 184, 0, 56, 4, 96, 184, 0, 89, 42] i := wB_of (by decide +kernel)
theorem d_Scene_beat_0 : decode b_Scene_beat 0 = .ok (.iconst 0, 1) := dc_3 (q0_win (r := 0) wn_Scene_beat_0 (by decide +kernel))
theorem d_Scene_beat_1 : decode b_Scene_beat 1 = .ok (.istore_n 3, 1) := dc_62 (q0_win (r := 1) wn_Scene_beat_0 (by decide +kernel))
theorem d_Scene_beat_2 : decode b_Scene_beat 2 = .ok (.iconst 0, 1) := dc_3 (q0_win (r := 2) wn_Scene_beat_0 (by decide +kernel))
theorem d_Scene_beat_3 : decode b_Scene_beat 3 = .ok (.istore 4, 2) := dc_54 (qU1_win (r := 3) wn_Scene_beat_0 (by decide +kernel))
theorem d_Scene_beat_5 : decode b_Scene_beat 5 = .ok (.iload 4, 2) := dc_21 (qU1_win (r := 5) wn_Scene_beat_0 (by decide +kernel))
theorem d_Scene_beat_7 : decode b_Scene_beat 7 = .ok (.aload_n 1, 1) := dc_43 (q0_win (r := 7) wn_Scene_beat_0 (by decide +kernel))
theorem d_Scene_beat_8 : decode b_Scene_beat 8 = .ok (.getfield 72, 3) := dc_180 (qU2_win (r := 8) wn_Scene_beat_0 (by decide +kernel))
theorem d_Scene_beat_11 : decode b_Scene_beat 11 = .ok (.if_icmp .ge 126, 3) := dc_162 (qS2_win (r := 11) wn_Scene_beat_0 (by decide +kernel))
theorem d_Scene_beat_14 : decode b_Scene_beat 14 = .ok (.aload_n 0, 1) := dc_42 (q0_win (r := 14) wn_Scene_beat_0 (by decide +kernel))
theorem d_Scene_beat_15 : decode b_Scene_beat 15 = .ok (.getfield 15, 3) := dc_180 (qU2_win (r := 15) wn_Scene_beat_0 (by decide +kernel))
theorem d_Scene_beat_18 : decode b_Scene_beat 18 = .ok (.iload 4, 2) := dc_21 (qU1_win (r := 18) wn_Scene_beat_0 (by decide +kernel))
theorem d_Scene_beat_20 : decode b_Scene_beat 20 = .ok (.invokestatic 56, 3) := dc_184 (qU2_win (r := 20) wn_Scene_beat_0 (by decide +kernel))
theorem d_Scene_beat_23 : decode b_Scene_beat 23 = .ok (.istore 5, 2) := dc_54 (qU1_win (r := 23) wn_Scene_beat_0 (by decide +kernel))
theorem d_Scene_beat_25 : decode b_Scene_beat 25 = .ok (.iload 5, 2) := dc_21 (qU1_win (r := 25) wn_Scene_beat_0 (by decide +kernel))
theorem d_Scene_beat_27 : decode b_Scene_beat 27 = .ok (.ifCond .ge 7, 3) := dc_156 (qS2_win (r := 27) wn_Scene_beat_0 (by decide +kernel))
theorem d_Scene_beat_30 : decode b_Scene_beat 30 = .ok (.iconst (-1), 1) := dc_2 (q0_win (r := 30) wn_Scene_beat_0 (by decide +kernel))
theorem d_Scene_beat_31 : decode b_Scene_beat 31 = .ok (.goto 10, 3) := dc_167 (qS2_win (r := 31) wn_Scene_beat_0 (by decide +kernel))
theorem d_Scene_beat_34 : decode b_Scene_beat 34 = .ok (.aload_n 0, 1) := dc_42 (q0_win (r := 34) wn_Scene_beat_0 (by decide +kernel))
theorem d_Scene_beat_35 : decode b_Scene_beat 35 = .ok (.aload_n 1, 1) := dc_43 (q0_win (r := 35) wn_Scene_beat_0 (by decide +kernel))
theorem d_Scene_beat_36 : decode b_Scene_beat 36 = .ok (.iload 5, 2) := dc_21 (qU1_win (r := 36) wn_Scene_beat_0 (by decide +kernel))
theorem d_Scene_beat_38 : decode b_Scene_beat 38 = .ok (.invokevirtual 83, 3) := dc_182 (qU2_win (r := 38) wn_Scene_beat_0 (by decide +kernel))
theorem d_Scene_beat_41 : decode b_Scene_beat 41 = .ok (.istore 6, 2) := dc_54 (qU1_win (r := 41) wn_Scene_beat_0 (by decide +kernel))
theorem d_Scene_beat_43 : decode b_Scene_beat 43 = .ok (.iload 6, 2) := dc_21 (qU1_win (r := 43) wn_Scene_beat_0 (by decide +kernel))
theorem d_Scene_beat_45 : decode b_Scene_beat 45 = .ok (.ifCond .lt 86, 3) := dc_155 (qS2_win (r := 45) wn_Scene_beat_0 (by decide +kernel))
theorem d_Scene_beat_48 : decode b_Scene_beat 48 = .ok (.iload_n 2, 1) := dc_28 (q0_win (r := 48) wn_Scene_beat_0 (by decide +kernel))
theorem d_Scene_beat_49 : decode b_Scene_beat 49 = .ok (.ifCond .eq 13, 3) := dc_153 (qS2_win (r := 49) wn_Scene_beat_0 (by decide +kernel))
theorem d_Scene_beat_52 : decode b_Scene_beat 52 = .ok (.aload_n 0, 1) := dc_42 (q0_win (r := 52) wn_Scene_beat_0 (by decide +kernel))
theorem d_Scene_beat_53 : decode b_Scene_beat 53 = .ok (.aload_n 1, 1) := dc_43 (q0_win (r := 53) wn_Scene_beat_0 (by decide +kernel))
theorem d_Scene_beat_54 : decode b_Scene_beat 54 = .ok (.iload 6, 2) := dc_21 (qU1_win (r := 54) wn_Scene_beat_0 (by decide +kernel))
theorem d_Scene_beat_56 : decode b_Scene_beat 56 = .ok (.invokevirtual 86, 3) := dc_182 (qU2_win (r := 56) wn_Scene_beat_0 (by decide +kernel))
theorem d_Scene_beat_59 : decode b_Scene_beat 59 = .ok (.ifCond .ge 72, 3) := dc_156 (qS2_win (r := 59) wn_Scene_beat_0 (by decide +kernel))
theorem d_Scene_beat_62 : decode b_Scene_beat 62 = .ok (.aload_n 0, 1) := dc_42 (q0_win (r := 62) wn_Scene_beat_0 (by decide +kernel))
theorem d_Scene_beat_63 : decode b_Scene_beat 63 = .ok (.getfield 15, 3) := dc_180 (qU2_win (r := 63) wn_Scene_beat_0 (by decide +kernel))
theorem d_Scene_beat_66 : decode b_Scene_beat 66 = .ok (.iload 4, 2) := dc_21 (qU1_win (r := 66) wn_Scene_beat_0 (by decide +kernel))
theorem d_Scene_beat_68 : decode b_Scene_beat 68 = .ok (.iload 6, 2) := dc_21 (qU1_win (r := 68) wn_Scene_beat_0 (by decide +kernel))
theorem d_Scene_beat_70 : decode b_Scene_beat 70 = .ok (.invokestatic 89, 3) := dc_184 (qU2_win (r := 70) wn_Scene_beat_0 (by decide +kernel))
theorem d_Scene_beat_73 : decode b_Scene_beat 73 = .ok (.aload_n 0, 1) := dc_42 (q0_win (r := 73) wn_Scene_beat_0 (by decide +kernel))
theorem d_Scene_beat_74 : decode b_Scene_beat 74 = .ok (.getfield 18, 3) := dc_180 (qU2_win (r := 74) wn_Scene_beat_0 (by decide +kernel))
theorem d_Scene_beat_77 : decode b_Scene_beat 77 = .ok (.iload 4, 2) := dc_21 (qU1_win (r := 77) wn_Scene_beat_0 (by decide +kernel))
theorem d_Scene_beat_79 : decode b_Scene_beat 79 = .ok (.aload_n 0, 1) := dc_42 (q0_win (r := 79) wn_Scene_beat_0 (by decide +kernel))
theorem d_Scene_beat_80 : decode b_Scene_beat 80 = .ok (.getfield 18, 3) := dc_180 (qU2_win (r := 80) wn_Scene_beat_0 (by decide +kernel))
theorem d_Scene_beat_83 : decode b_Scene_beat 83 = .ok (.iload 4, 2) := dc_21 (qU1_win (r := 83) wn_Scene_beat_0 (by decide +kernel))
theorem d_Scene_beat_85 : decode b_Scene_beat 85 = .ok (.invokestatic 56, 3) := dc_184 (qU2_win (r := 85) wn_Scene_beat_0 (by decide +kernel))
theorem d_Scene_beat_88 : decode b_Scene_beat 88 = .ok (.iconst 1, 1) := dc_4 (q0_win (r := 88) wn_Scene_beat_0 (by decide +kernel))
theorem d_Scene_beat_89 : decode b_Scene_beat 89 = .ok (.iadd, 1) := dc_96 (q0_win (r := 89) wn_Scene_beat_0 (by decide +kernel))
theorem d_Scene_beat_90 : decode b_Scene_beat 90 = .ok (.invokestatic 89, 3) := dc_184 (qU2_win (r := 90) wn_Scene_beat_0 (by decide +kernel))
theorem d_Scene_beat_93 : decode b_Scene_beat 93 = .ok (.aload_n 0, 1) := dc_42 (q0_win (r := 93) wn_Scene_beat_0 (by decide +kernel))
theorem wn_Scene_beat_94 : ∀ i, i < 45 → bA b_Scene_beat (94 + i) = wB [180, 0, 21, 21, 4, 42, 180, 0, 21, 21, 4, 184, 0, 56, 43, 21, 5, 21, 6, 182, 0, 93, 153, 0, 7, 4, 167, 0, 4, 3, 96, 184, 0, 89, 132, 3, 1, 132, 4, 1, 167, 255, 127, 29, 172] i := wB_of (by decide +kernel)
theorem d_Scene_beat_94 : decode b_Scene_beat 94 = .ok (.getfield 21, 3) := dc_180 (qU2_win (r := 0) wn_Scene_beat_94 (by decide +kernel))
theorem d_Scene_beat_97 : decode b_Scene_beat 97 = .ok (.iload 4, 2) := dc_21 (qU1_win (r := 3) wn_Scene_beat_94 (by decide +kernel))
theorem d_Scene_beat_99 : decode b_Scene_beat 99 = .ok (.aload_n 0, 1) := dc_42 (q0_win (r := 5) wn_Scene_beat_94 (by decide +kernel))
theorem d_Scene_beat_100 : decode b_Scene_beat 100 = .ok (.getfield 21, 3) := dc_180 (qU2_win (r := 6) wn_Scene_beat_94 (by decide +kernel))
theorem d_Scene_beat_103 : decode b_Scene_beat 103 = .ok (.iload 4, 2) := dc_21 (qU1_win (r := 9) wn_Scene_beat_94 (by decide +kernel))
theorem d_Scene_beat_105 : decode b_Scene_beat 105 = .ok (.invokestatic 56, 3) := dc_184 (qU2_win (r := 11) wn_Scene_beat_94 (by decide +kernel))
theorem d_Scene_beat_108 : decode b_Scene_beat 108 = .ok (.aload_n 1, 1) := dc_43 (q0_win (r := 14) wn_Scene_beat_94 (by decide +kernel))
theorem d_Scene_beat_109 : decode b_Scene_beat 109 = .ok (.iload 5, 2) := dc_21 (qU1_win (r := 15) wn_Scene_beat_94 (by decide +kernel))
theorem d_Scene_beat_111 : decode b_Scene_beat 111 = .ok (.iload 6, 2) := dc_21 (qU1_win (r := 17) wn_Scene_beat_94 (by decide +kernel))
theorem d_Scene_beat_113 : decode b_Scene_beat 113 = .ok (.invokevirtual 93, 3) := dc_182 (qU2_win (r := 19) wn_Scene_beat_94 (by decide +kernel))
theorem d_Scene_beat_116 : decode b_Scene_beat 116 = .ok (.ifCond .eq 7, 3) := dc_153 (qS2_win (r := 22) wn_Scene_beat_94 (by decide +kernel))
theorem d_Scene_beat_119 : decode b_Scene_beat 119 = .ok (.iconst 1, 1) := dc_4 (q0_win (r := 25) wn_Scene_beat_94 (by decide +kernel))
theorem d_Scene_beat_120 : decode b_Scene_beat 120 = .ok (.goto 4, 3) := dc_167 (qS2_win (r := 26) wn_Scene_beat_94 (by decide +kernel))
theorem d_Scene_beat_123 : decode b_Scene_beat 123 = .ok (.iconst 0, 1) := dc_3 (q0_win (r := 29) wn_Scene_beat_94 (by decide +kernel))
theorem d_Scene_beat_124 : decode b_Scene_beat 124 = .ok (.iadd, 1) := dc_96 (q0_win (r := 30) wn_Scene_beat_94 (by decide +kernel))
theorem d_Scene_beat_125 : decode b_Scene_beat 125 = .ok (.invokestatic 89, 3) := dc_184 (qU2_win (r := 31) wn_Scene_beat_94 (by decide +kernel))
theorem d_Scene_beat_128 : decode b_Scene_beat 128 = .ok (.iinc 3 1, 3) := dc_132 (qI_win (r := 34) wn_Scene_beat_94 (by decide +kernel))
theorem d_Scene_beat_131 : decode b_Scene_beat 131 = .ok (.iinc 4 1, 3) := dc_132 (qI_win (r := 37) wn_Scene_beat_94 (by decide +kernel))
theorem d_Scene_beat_134 : decode b_Scene_beat 134 = .ok (.goto (-129), 3) := dc_167 (qS2_win (r := 40) wn_Scene_beat_94 (by decide +kernel))
theorem d_Scene_beat_137 : decode b_Scene_beat 137 = .ok (.iload_n 3, 1) := dc_29 (q0_win (r := 43) wn_Scene_beat_94 (by decide +kernel))
theorem d_Scene_beat_138 : decode b_Scene_beat 138 = .ok (.ireturn, 1) := dc_172 (q0_win (r := 44) wn_Scene_beat_94 (by decide +kernel))
def t_Scene_beat_L131 (k0 : Nat) (k1 : Nat) (x2 : Int) (bk5 : Mem → Int → Int → Option (Mem × Int)) (M : Mem) (v3_ : Int) (v4_ : Int) : Option (Mem × Int) := (bk5 M v3_ (w32 (v4_ + 1)))
def t_Scene_beat_L124 (k0 : Nat) (k1 : Nat) (x2 : Int) (bk5 : Mem → Int → Int → Option (Mem × Int)) (M : Mem) (v3_ : Int) (v4_ : Int) (v6_ : Int) (v7_ : Int) (v8_ : Int) : Option (Mem × Int) := (qlet (t_WF_put M (k0 + 4) 8 v6_ (w32 (v7_ + v8_))) fun q24 => (t_Scene_beat_L131 k0 k1 x2 bk5 q24 (w32 (v3_ + 1)) v4_))
def t_Scene_beat_L62 (k0 : Nat) (k1 : Nat) (x2 : Int) (bk5 : Mem → Int → Int → Option (Mem × Int)) (M : Mem) (v3_ : Int) (v4_ : Int) (v5_ : Int) (v6_ : Int) : Option (Mem × Int) := (qlet (t_WF_put M (k0 + 2) 8 v4_ v6_) fun q13 => (qlet (t_WF_look q13 (k0 + 3) 8 v4_) fun q15 => (qlet (t_WF_put q13 (k0 + 3) 8 v4_ (w32 (q15 + 1))) fun q17 => (qlet (t_WF_look q17 (k0 + 4) 8 v4_) fun q19 => (qlet (t_Town_isLine q17 k1 v5_ v6_) fun q21 => (if q21 = 0 then (t_Scene_beat_L124 k0 k1 x2 bk5 q17 v3_ v4_ v4_ q19 0) else (t_Scene_beat_L124 k0 k1 x2 bk5 q17 v3_ v4_ v4_ q19 1)))))))
def t_Scene_beat_L41 (k0 : Nat) (k1 : Nat) (x2 : Int) (bk5 : Mem → Int → Int → Option (Mem × Int)) (M : Mem) (v3_ : Int) (v4_ : Int) (v5_ : Int) (v6_ : Int) : Option (Mem × Int) := (if v6_ < 0 then (t_Scene_beat_L131 k0 k1 x2 bk5 M v3_ v4_) else (if x2 = 0 then (t_Scene_beat_L62 k0 k1 x2 bk5 M v3_ v4_ v5_ v6_) else (obind (t_Scene_thingIn M k0 k1 v6_) fun q10 => (if 0 ≤ q10 then (t_Scene_beat_L131 k0 k1 x2 bk5 M v3_ v4_) else (t_Scene_beat_L62 k0 k1 x2 bk5 M v3_ v4_ v5_ v6_)))))
def t_Scene_beat_L5 (k0 : Nat) (k1 : Nat) (x2 : Int)  : Nat → Mem → Int → Int → Option (Mem × Int)
  | 0, _, _, _ => none
  | fu + 1, M, v3_, v4_ => (if (M.1 k1 15) ≤ v4_ then (some (M, v3_)) else (qlet (t_WF_look M (k0 + 2) 8 v4_) fun q3 => (if 0 ≤ q3 then (qlet (t_Scene_nextOf M k0 k1 q3) fun q6 => (t_Scene_beat_L41 k0 k1 x2 (fun a0_ a1_ a2_ => t_Scene_beat_L5 k0 k1 x2 fu a0_ a1_ a2_) M v3_ v4_ q3 q6)) else (t_Scene_beat_L41 k0 k1 x2 (fun a0_ a1_ a2_ => t_Scene_beat_L5 k0 k1 x2 fu a0_ a1_ a2_) M v3_ v4_ q3 (-1)))))
def t_Scene_beat (M : Mem) (k0 : Nat) (k1 : Nat) (x2 : Int) : Option (Mem × Int) := (t_Scene_beat_L5 k0 k1 x2 FU M 0 0)
set_option maxHeartbeats 4000000 in
set_option maxRecDepth 100000 in
theorem k_Scene_beat_L131 (l : Launch) {p : Program} {e : Env} {s : State} {m : MethodId} {below : List Frame} {meth : Method} {c : Code} {b n : Nat} {C : CT} (hlo : 191 ≤ n) (k0 : Nat) (k1 : Nat) (x2 : Int) (hk0 : isScene k0) (hk1 : isTown k1) (hx2 : InR x2) (F : Cx b p m c b_Scene_beat 7 s ([.ref (b + k0), .ref (b + k1), vI x2] : List Value).toArray "WardFalls$Scene" C n 191) (hlk : meth.locks = false) (hr : meth.sig.returnType = some .int) {res : Mem × Int} (bk5 : Mem → Int → Int → Option (Mem × Int)) (hbk5 : ∀ (M : Mem) (v3_ : Int) (hv3_ : InR v3_) (v4_ : Int) (hv4_ : InR v4_) (H : Heap) (locs : List Loc) (ls : Array Slot), St b C n M s H locs → lv_has ls 7 [(0, .ref (b + k0)), (1, .ref (b + k1)), (2, vI x2), (3, vI v3_), (4, vI v4_)] → bk5 M v3_ v4_ = some res → W p l e (headSpec (wsM y_Scene_beat b_Scene_beat 7 (some .int)) (rmD 3)).room s m ([.ref (b + k0), .ref (b + k1), vI x2] : List Value).toArray below meth c H locs 0 0 (MQ below (QI b C n res.1 res.2) ([.ref (b + k0), .ref (b + k1), vI x2] : List Value).toArray s 0 0 (frb b)) (F0 m 5 ls [])) (M : Mem) (v3_ : Int) (hv3_ : InR v3_) (v4_ : Int) (hv4_ : InR v4_) (H : Heap) (locs : List Loc) (ls : Array Slot) (hS : St b C n M s H locs) (hl : lv_has ls 7 [(0, .ref (b + k0)), (1, .ref (b + k1)), (2, vI x2), (3, vI v3_), (4, vI v4_)]) (hT : t_Scene_beat_L131 k0 k1 x2 bk5 M v3_ v4_ = some res) : W p l e (headSpec (wsM y_Scene_beat b_Scene_beat 7 (some .int)) (rmD 3)).room s m ([.ref (b + k0), .ref (b + k1), vI x2] : List Value).toArray below meth c H locs 0 0 (MQ below (QI b C n res.1 res.2) ([.ref (b + k0), .ref (b + k1), vI x2] : List Value).toArray s 0 0 (frb b)) (F0 m 131 ls []) := by
  unfold t_Scene_beat_L131 at hT
  refine lv_iinc (v := Int32.ofInt (w32 (v4_ + 1))) (lv' := [(4, vI (w32 (v4_ + 1))), (0, .ref (b + k0)), (1, .ref (b + k1)), (2, vI x2), (3, vI v3_)]) F.hx F.hb d_Scene_beat_131 hl (k := 4) rfl (q_of_add _ _) (Nat.le_of_ble_eq_true rfl) rfl (fun ls hl => ?_)
  refine lv_goto (tgt := 5) F.hx F.hb d_Scene_beat_134 (by decide) ?_
  exact hbk5 M v3_ hv3_ (w32 (v4_ + 1)) (inr_w32 _) _ _ _ hS (lv_sub hl [1, 2, 3, 4, 0] rfl) hT
set_option maxHeartbeats 4000000 in
set_option maxRecDepth 100000 in
theorem k_Scene_beat_L124 (l : Launch) {p : Program} {e : Env} {s : State} {m : MethodId} {below : List Frame} {meth : Method} {c : Code} {b n : Nat} {C : CT} (hlo : 191 ≤ n) (k0 : Nat) (k1 : Nat) (x2 : Int) (hk0 : isScene k0) (hk1 : isTown k1) (hx2 : InR x2) (F : Cx b p m c b_Scene_beat 7 s ([.ref (b + k0), .ref (b + k1), vI x2] : List Value).toArray "WardFalls$Scene" C n 191) (hlk : meth.locks = false) (hr : meth.sig.returnType = some .int) {res : Mem × Int} (bk5 : Mem → Int → Int → Option (Mem × Int)) (hbk5 : ∀ (M : Mem) (v3_ : Int) (hv3_ : InR v3_) (v4_ : Int) (hv4_ : InR v4_) (H : Heap) (locs : List Loc) (ls : Array Slot), St b C n M s H locs → lv_has ls 7 [(0, .ref (b + k0)), (1, .ref (b + k1)), (2, vI x2), (3, vI v3_), (4, vI v4_)] → bk5 M v3_ v4_ = some res → W p l e (headSpec (wsM y_Scene_beat b_Scene_beat 7 (some .int)) (rmD 3)).room s m ([.ref (b + k0), .ref (b + k1), vI x2] : List Value).toArray below meth c H locs 0 0 (MQ below (QI b C n res.1 res.2) ([.ref (b + k0), .ref (b + k1), vI x2] : List Value).toArray s 0 0 (frb b)) (F0 m 5 ls [])) (M : Mem) (v3_ : Int) (hv3_ : InR v3_) (v4_ : Int) (hv4_ : InR v4_) (v6_ : Int) (hv6_ : InR v6_) (v7_ : Int) (hv7_ : InR v7_) (v8_ : Int) (hv8_ : v8_ = 0 ∨ v8_ = 1) (H : Heap) (locs : List Loc) (ls : Array Slot) (hS : St b C n M s H locs) (hl : lv_has ls 7 [(0, .ref (b + k0)), (1, .ref (b + k1)), (2, vI x2), (3, vI v3_), (4, vI v4_)]) (hT : t_Scene_beat_L124 k0 k1 x2 bk5 M v3_ v4_ v6_ v7_ v8_ = some res) : W p l e (headSpec (wsM y_Scene_beat b_Scene_beat 7 (some .int)) (rmD 3)).room s m ([.ref (b + k0), .ref (b + k1), vI x2] : List Value).toArray below meth c H locs 0 0 (MQ below (QI b C n res.1 res.2) ([.ref (b + k0), .ref (b + k1), vI x2] : List Value).toArray s 0 0 (frb b)) (F0 m 124 ls [vI v8_, vI v7_, vI v6_, .ref (b + (k0 + 4))]) := by
  unfold t_Scene_beat_L124 at hT
  refine r_iadd F.hx F.hb d_Scene_beat_124 ?_
  obtain ⟨q24, hq24⟩ : ∃ q, q = (t_WF_put M (k0 + 4) 8 v6_ (w32 (v7_ + v8_))) := ⟨_, rfl⟩
  replace hT := qlet_eq hT hq24
  refine r_backV F hS (r_runSN (As := [.ref (b + (k0 + 4)), vI v6_, vI (w32 (v7_ + v8_))]) F hS (c_WF_put l F.2.2.1 M (k0 + 4) 8 v6_ (w32 (v7_ + v8_)) (Scene_f3 hk0) hv6_ (inr_w32 _) _ hq24.symm) mw_512 mw_511 mw_1 gs_Scene_89 hd_WF_put ⟨Nat.le_of_ble_eq_true rfl, Nat.le_of_ble_eq_true rfl⟩ rfl hl.1 (Nat.le_of_ble_eq_true rfl) ⟨Nat.zero_le _, Nat.zero_le _⟩ rfl d_Scene_beat_125) (fun H locs hS => ?_)
  refine lv_iinc (v := Int32.ofInt (w32 (v3_ + 1))) (lv' := [(3, vI (w32 (v3_ + 1))), (0, .ref (b + k0)), (1, .ref (b + k1)), (2, vI x2), (4, vI v4_)]) F.hx F.hb d_Scene_beat_128 hl (k := 3) rfl (q_of_add _ _) (Nat.le_of_ble_eq_true rfl) rfl (fun ls hl => ?_)
  exact k_Scene_beat_L131 l hlo k0 k1 x2 hk0 hk1 hx2 F hlk hr bk5 hbk5 q24 (w32 (v3_ + 1)) (inr_w32 _) v4_ hv4_ _ _ _ hS (lv_sub hl [1, 2, 3, 0, 4] rfl) hT
set_option maxHeartbeats 4000000 in
set_option maxRecDepth 100000 in
theorem k_Scene_beat_L62 (l : Launch) {p : Program} {e : Env} {s : State} {m : MethodId} {below : List Frame} {meth : Method} {c : Code} {b n : Nat} {C : CT} (hlo : 191 ≤ n) (k0 : Nat) (k1 : Nat) (x2 : Int) (hk0 : isScene k0) (hk1 : isTown k1) (hx2 : InR x2) (F : Cx b p m c b_Scene_beat 7 s ([.ref (b + k0), .ref (b + k1), vI x2] : List Value).toArray "WardFalls$Scene" C n 191) (hlk : meth.locks = false) (hr : meth.sig.returnType = some .int) {res : Mem × Int} (bk5 : Mem → Int → Int → Option (Mem × Int)) (hbk5 : ∀ (M : Mem) (v3_ : Int) (hv3_ : InR v3_) (v4_ : Int) (hv4_ : InR v4_) (H : Heap) (locs : List Loc) (ls : Array Slot), St b C n M s H locs → lv_has ls 7 [(0, .ref (b + k0)), (1, .ref (b + k1)), (2, vI x2), (3, vI v3_), (4, vI v4_)] → bk5 M v3_ v4_ = some res → W p l e (headSpec (wsM y_Scene_beat b_Scene_beat 7 (some .int)) (rmD 3)).room s m ([.ref (b + k0), .ref (b + k1), vI x2] : List Value).toArray below meth c H locs 0 0 (MQ below (QI b C n res.1 res.2) ([.ref (b + k0), .ref (b + k1), vI x2] : List Value).toArray s 0 0 (frb b)) (F0 m 5 ls [])) (M : Mem) (v3_ : Int) (hv3_ : InR v3_) (v4_ : Int) (hv4_ : InR v4_) (v5_ : Int) (hv5_ : InR v5_) (v6_ : Int) (hv6_ : InR v6_) (H : Heap) (locs : List Loc) (ls : Array Slot) (hS : St b C n M s H locs) (hl : lv_has ls 7 [(0, .ref (b + k0)), (1, .ref (b + k1)), (2, vI x2), (3, vI v3_), (4, vI v4_), (5, vI v5_), (6, vI v6_)]) (hT : t_Scene_beat_L62 k0 k1 x2 bk5 M v3_ v4_ v5_ v6_ = some res) : W p l e (headSpec (wsM y_Scene_beat b_Scene_beat 7 (some .int)) (rmD 3)).room s m ([.ref (b + k0), .ref (b + k1), vI x2] : List Value).toArray below meth c H locs 0 0 (MQ below (QI b C n res.1 res.2) ([.ref (b + k0), .ref (b + k1), vI x2] : List Value).toArray s 0 0 (frb b)) (F0 m 62 ls []) := by
  unfold t_Scene_beat_L62 at hT
  refine lv_aload_n F.hx F.hb d_Scene_beat_62 rfl (lv_at hl 0 rfl) ?_
  refine r_get (v := .ref (b + (k0 + 2))) (N := 7) (T := T9) (j := 1) F hS (Scene_lt hk0) (Scene_sh hk0) (Scene_N hk0) rfl (Nat.le_of_ble_eq_true rfl) ing9 mw_278 (Scene_g1 hk0 _) d_Scene_beat_63 ?_
  refine lv_iload F.hx F.hb d_Scene_beat_66 (lv_at hl 4 rfl) ?_
  refine lv_iload F.hx F.hb d_Scene_beat_68 (lv_at hl 6 rfl) ?_
  obtain ⟨q13, hq13⟩ : ∃ q, q = (t_WF_put M (k0 + 2) 8 v4_ v6_) := ⟨_, rfl⟩
  replace hT := qlet_eq hT hq13
  refine r_backV F hS (r_runSN (As := [.ref (b + (k0 + 2)), vI v4_, vI v6_]) F hS (c_WF_put l F.2.2.1 M (k0 + 2) 8 v4_ v6_ (Scene_f1 hk0) hv4_ hv6_ _ hq13.symm) mw_512 mw_511 mw_1 gs_Scene_89 hd_WF_put ⟨Nat.le_of_ble_eq_true rfl, Nat.le_of_ble_eq_true rfl⟩ rfl hl.1 (Nat.le_of_ble_eq_true rfl) ⟨Nat.zero_le _, Nat.zero_le _⟩ rfl d_Scene_beat_70) (fun H locs hS => ?_)
  refine lv_aload_n F.hx F.hb d_Scene_beat_73 rfl (lv_at hl 0 rfl) ?_
  refine r_get (v := .ref (b + (k0 + 3))) (N := 7) (T := T9) (j := 2) F hS (Scene_lt hk0) (Scene_sh hk0) (Scene_N hk0) rfl (Nat.le_of_ble_eq_true rfl) ing9 mw_281 (Scene_g2 hk0 _) d_Scene_beat_74 ?_
  refine lv_iload F.hx F.hb d_Scene_beat_77 (lv_at hl 4 rfl) ?_
  refine lv_aload_n F.hx F.hb d_Scene_beat_79 rfl (lv_at hl 0 rfl) ?_
  refine r_get (v := .ref (b + (k0 + 3))) (N := 7) (T := T9) (j := 2) F hS (Scene_lt hk0) (Scene_sh hk0) (Scene_N hk0) rfl (Nat.le_of_ble_eq_true rfl) ing9 mw_281 (Scene_g2 hk0 _) d_Scene_beat_80 ?_
  refine lv_iload F.hx F.hb d_Scene_beat_83 (lv_at hl 4 rfl) ?_
  obtain ⟨q15, hq15⟩ : ∃ q, q = (t_WF_look q13 (k0 + 3) 8 v4_) := ⟨_, rfl⟩
  replace hT := qlet_eq hT hq15
  refine r_backI F hS (r_runSN (As := [.ref (b + (k0 + 3)), vI v4_]) F hS (c_WF_look l F.2.2.1 q13 (k0 + 3) 8 v4_ (Scene_f2 hk0) hv4_ _ hq15.symm) mw_519 mw_518 mw_1 gs_Scene_56 hd_WF_look ⟨Nat.le_of_ble_eq_true rfl, Nat.le_of_ble_eq_true rfl⟩ rfl hl.1 (Nat.le_of_ble_eq_true rfl) ⟨Nat.zero_le _, Nat.zero_le _⟩ rfl d_Scene_beat_85) (fun H locs hS h16 => ?_)
  refine r_iconst F.hx F.hb d_Scene_beat_88 ?_
  refine r_iadd F.hx F.hb d_Scene_beat_89 ?_
  obtain ⟨q17, hq17⟩ : ∃ q, q = (t_WF_put q13 (k0 + 3) 8 v4_ (w32 (q15 + 1))) := ⟨_, rfl⟩
  replace hT := qlet_eq hT hq17
  refine r_backV F hS (r_runSN (As := [.ref (b + (k0 + 3)), vI v4_, vI (w32 (q15 + 1))]) F hS (c_WF_put l F.2.2.1 q13 (k0 + 3) 8 v4_ (w32 (q15 + 1)) (Scene_f2 hk0) hv4_ (inr_w32 _) _ hq17.symm) mw_512 mw_511 mw_1 gs_Scene_89 hd_WF_put ⟨Nat.le_of_ble_eq_true rfl, Nat.le_of_ble_eq_true rfl⟩ rfl hl.1 (Nat.le_of_ble_eq_true rfl) ⟨Nat.zero_le _, Nat.zero_le _⟩ rfl d_Scene_beat_90) (fun H locs hS => ?_)
  refine lv_aload_n F.hx F.hb d_Scene_beat_93 rfl (lv_at hl 0 rfl) ?_
  refine r_get (v := .ref (b + (k0 + 4))) (N := 7) (T := T9) (j := 3) F hS (Scene_lt hk0) (Scene_sh hk0) (Scene_N hk0) rfl (Nat.le_of_ble_eq_true rfl) ing9 mw_283 (Scene_g3 hk0 _) d_Scene_beat_94 ?_
  refine lv_iload F.hx F.hb d_Scene_beat_97 (lv_at hl 4 rfl) ?_
  refine lv_aload_n F.hx F.hb d_Scene_beat_99 rfl (lv_at hl 0 rfl) ?_
  refine r_get (v := .ref (b + (k0 + 4))) (N := 7) (T := T9) (j := 3) F hS (Scene_lt hk0) (Scene_sh hk0) (Scene_N hk0) rfl (Nat.le_of_ble_eq_true rfl) ing9 mw_283 (Scene_g3 hk0 _) d_Scene_beat_100 ?_
  refine lv_iload F.hx F.hb d_Scene_beat_103 (lv_at hl 4 rfl) ?_
  obtain ⟨q19, hq19⟩ : ∃ q, q = (t_WF_look q17 (k0 + 4) 8 v4_) := ⟨_, rfl⟩
  replace hT := qlet_eq hT hq19
  refine r_backI F hS (r_runSN (As := [.ref (b + (k0 + 4)), vI v4_]) F hS (c_WF_look l F.2.2.1 q17 (k0 + 4) 8 v4_ (Scene_f3 hk0) hv4_ _ hq19.symm) mw_519 mw_518 mw_1 gs_Scene_56 hd_WF_look ⟨Nat.le_of_ble_eq_true rfl, Nat.le_of_ble_eq_true rfl⟩ rfl hl.1 (Nat.le_of_ble_eq_true rfl) ⟨Nat.zero_le _, Nat.zero_le _⟩ rfl d_Scene_beat_105) (fun H locs hS h20 => ?_)
  refine lv_aload_n F.hx F.hb d_Scene_beat_108 rfl (lv_at hl 1 rfl) ?_
  refine lv_iload F.hx F.hb d_Scene_beat_109 (lv_at hl 5 rfl) ?_
  refine lv_iload F.hx F.hb d_Scene_beat_111 (lv_at hl 6 rfl) ?_
  obtain ⟨q21, hq21⟩ : ∃ q, q = (t_Town_isLine q17 k1 v5_ v6_) := ⟨_, rfl⟩
  replace hT := qlet_eq hT hq21
  refine r_backZ F hS (r_runV (k := k1) (N := 20) (T := T11) (As := [vI v5_, vI v6_]) F hS (Town_lt hk1) (Town_sh hk1) rfl (c_Town_isLine l F.2.2.1 q17 k1 v5_ v6_ hk1 hv5_ hv6_ _ hq21.symm) gs_Scene_93 hd_Town_isLine ⟨Nat.le_of_ble_eq_true rfl, Nat.le_of_ble_eq_true rfl⟩ rfl hl.1 (Nat.le_of_ble_eq_true rfl) ⟨Nat.zero_le _, Nat.zero_le _⟩ rfl d_Scene_beat_113) (fun H locs hS h22 => ?_)
  refine r_if_eq (tgt := 123) F.hx F.hb (inr_z h22) d_Scene_beat_116 (by decide) (fun c23 => ?_) (fun c23 => ?_)
  · replace hT := (if_pos c23).symm.trans hT
    refine r_iconst F.hx F.hb d_Scene_beat_123 ?_
    exact k_Scene_beat_L124 l hlo k0 k1 x2 hk0 hk1 hx2 F hlk hr bk5 hbk5 q17 v3_ hv3_ v4_ hv4_ v4_ hv4_ q19 h20 0 (Or.inl rfl) _ _ _ hS (lv_sub hl [0, 1, 2, 3, 4] rfl) hT
  · replace hT := (if_neg c23).symm.trans hT
    refine r_iconst F.hx F.hb d_Scene_beat_119 ?_
    refine lv_goto (tgt := 124) F.hx F.hb d_Scene_beat_120 (by decide) ?_
    exact k_Scene_beat_L124 l hlo k0 k1 x2 hk0 hk1 hx2 F hlk hr bk5 hbk5 q17 v3_ hv3_ v4_ hv4_ v4_ hv4_ q19 h20 1 (Or.inr rfl) _ _ _ hS (lv_sub hl [0, 1, 2, 3, 4] rfl) hT
set_option maxHeartbeats 4000000 in
set_option maxRecDepth 100000 in
theorem k_Scene_beat_L41 (l : Launch) {p : Program} {e : Env} {s : State} {m : MethodId} {below : List Frame} {meth : Method} {c : Code} {b n : Nat} {C : CT} (hlo : 191 ≤ n) (k0 : Nat) (k1 : Nat) (x2 : Int) (hk0 : isScene k0) (hk1 : isTown k1) (hx2 : InR x2) (F : Cx b p m c b_Scene_beat 7 s ([.ref (b + k0), .ref (b + k1), vI x2] : List Value).toArray "WardFalls$Scene" C n 191) (hlk : meth.locks = false) (hr : meth.sig.returnType = some .int) {res : Mem × Int} (bk5 : Mem → Int → Int → Option (Mem × Int)) (hbk5 : ∀ (M : Mem) (v3_ : Int) (hv3_ : InR v3_) (v4_ : Int) (hv4_ : InR v4_) (H : Heap) (locs : List Loc) (ls : Array Slot), St b C n M s H locs → lv_has ls 7 [(0, .ref (b + k0)), (1, .ref (b + k1)), (2, vI x2), (3, vI v3_), (4, vI v4_)] → bk5 M v3_ v4_ = some res → W p l e (headSpec (wsM y_Scene_beat b_Scene_beat 7 (some .int)) (rmD 3)).room s m ([.ref (b + k0), .ref (b + k1), vI x2] : List Value).toArray below meth c H locs 0 0 (MQ below (QI b C n res.1 res.2) ([.ref (b + k0), .ref (b + k1), vI x2] : List Value).toArray s 0 0 (frb b)) (F0 m 5 ls [])) (M : Mem) (v3_ : Int) (hv3_ : InR v3_) (v4_ : Int) (hv4_ : InR v4_) (v5_ : Int) (hv5_ : InR v5_) (v6_ : Int) (hv6_ : InR v6_) (H : Heap) (locs : List Loc) (ls : Array Slot) (hS : St b C n M s H locs) (hl : lv_has ls 7 [(0, .ref (b + k0)), (1, .ref (b + k1)), (2, vI x2), (3, vI v3_), (4, vI v4_), (5, vI v5_)]) (hT : t_Scene_beat_L41 k0 k1 x2 bk5 M v3_ v4_ v5_ v6_ = some res) : W p l e (headSpec (wsM y_Scene_beat b_Scene_beat 7 (some .int)) (rmD 3)).room s m ([.ref (b + k0), .ref (b + k1), vI x2] : List Value).toArray below meth c H locs 0 0 (MQ below (QI b C n res.1 res.2) ([.ref (b + k0), .ref (b + k1), vI x2] : List Value).toArray s 0 0 (frb b)) (F0 m 41 ls [vI v6_]) := by
  unfold t_Scene_beat_L41 at hT
  refine lv_istore (lv' := [(6, vI v6_), (0, .ref (b + k0)), (1, .ref (b + k1)), (2, vI x2), (3, vI v3_), (4, vI v4_), (5, vI v5_)]) F.hx F.hb d_Scene_beat_41 hl (Nat.le_of_ble_eq_true rfl) rfl (fun ls hl => ?_)
  refine lv_iload F.hx F.hb d_Scene_beat_43 (lv_at hl 0 rfl) ?_
  refine r_if_lt (tgt := 131) F.hx F.hb hv6_ d_Scene_beat_45 (by decide) (fun c8 => ?_) (fun c8 => ?_)
  · replace hT := (if_pos c8).symm.trans hT
    exact k_Scene_beat_L131 l hlo k0 k1 x2 hk0 hk1 hx2 F hlk hr bk5 hbk5 M v3_ hv3_ v4_ hv4_ _ _ _ hS (lv_sub hl [1, 2, 3, 4, 5] rfl) hT
  · replace hT := (if_neg c8).symm.trans hT
    refine lv_iload_n F.hx F.hb d_Scene_beat_48 rfl (lv_at hl 3 rfl) ?_
    refine r_if_eq (tgt := 62) F.hx F.hb hx2 d_Scene_beat_49 (by decide) (fun c9 => ?_) (fun c9 => ?_)
    · replace hT := (if_pos c9).symm.trans hT
      exact k_Scene_beat_L62 l hlo k0 k1 x2 hk0 hk1 hx2 F hlk hr bk5 hbk5 M v3_ hv3_ v4_ hv4_ v5_ hv5_ v6_ hv6_ _ _ _ hS (lv_sub hl [1, 2, 3, 4, 5, 6, 0] rfl) hT
    · replace hT := (if_neg c9).symm.trans hT
      refine lv_aload_n F.hx F.hb d_Scene_beat_52 rfl (lv_at hl 1 rfl) ?_
      refine lv_aload_n F.hx F.hb d_Scene_beat_53 rfl (lv_at hl 2 rfl) ?_
      refine lv_iload F.hx F.hb d_Scene_beat_54 (lv_at hl 0 rfl) ?_
      obtain ⟨q10, hq10, hT⟩ := q_obind hT
      refine r_backI F hS (r_runV (k := k0) (N := 7) (T := T9) (As := [.ref (b + k1), vI v6_]) F hS (Scene_lt hk0) (Scene_sh hk0) rfl (c_Scene_thingIn l F.2.2.1 M k0 k1 v6_ hk0 hk1 hv6_ _ hq10) gs_Scene_86 hd_Scene_thingIn ⟨Nat.le_of_ble_eq_true rfl, Nat.le_of_ble_eq_true rfl⟩ rfl hl.1 (Nat.le_of_ble_eq_true rfl) ⟨Nat.zero_le _, Nat.zero_le _⟩ rfl d_Scene_beat_56) (fun H locs hS h11 => ?_)
      refine r_if_ge (tgt := 131) F.hx F.hb h11 d_Scene_beat_59 (by decide) (fun c12 => ?_) (fun c12 => ?_)
      · replace hT := (if_pos c12).symm.trans hT
        exact k_Scene_beat_L131 l hlo k0 k1 x2 hk0 hk1 hx2 F hlk hr bk5 hbk5 M v3_ hv3_ v4_ hv4_ _ _ _ hS (lv_sub hl [1, 2, 3, 4, 5] rfl) hT
      · replace hT := (if_neg c12).symm.trans hT
        exact k_Scene_beat_L62 l hlo k0 k1 x2 hk0 hk1 hx2 F hlk hr bk5 hbk5 M v3_ hv3_ v4_ hv4_ v5_ hv5_ v6_ hv6_ _ _ _ hS (lv_sub hl [1, 2, 3, 4, 5, 6, 0] rfl) hT
set_option maxHeartbeats 4000000 in
set_option maxRecDepth 100000 in
theorem k_Scene_beat_L5 (l : Launch) {p : Program} {e : Env} {s : State} {m : MethodId} {below : List Frame} {meth : Method} {c : Code} {b n : Nat} {C : CT} (hlo : 191 ≤ n) (k0 : Nat) (k1 : Nat) (x2 : Int) (hk0 : isScene k0) (hk1 : isTown k1) (hx2 : InR x2) (F : Cx b p m c b_Scene_beat 7 s ([.ref (b + k0), .ref (b + k1), vI x2] : List Value).toArray "WardFalls$Scene" C n 191) (hlk : meth.locks = false) (hr : meth.sig.returnType = some .int) {res : Mem × Int} : ∀ (fu : Nat) (M : Mem) (v3_ : Int) (hv3_ : InR v3_) (v4_ : Int) (hv4_ : InR v4_) (H : Heap) (locs : List Loc) (ls : Array Slot), St b C n M s H locs → lv_has ls 7 [(0, .ref (b + k0)), (1, .ref (b + k1)), (2, vI x2), (3, vI v3_), (4, vI v4_)] → t_Scene_beat_L5 k0 k1 x2 fu M v3_ v4_ = some res → W p l e (headSpec (wsM y_Scene_beat b_Scene_beat 7 (some .int)) (rmD 3)).room s m ([.ref (b + k0), .ref (b + k1), vI x2] : List Value).toArray below meth c H locs 0 0 (MQ below (QI b C n res.1 res.2) ([.ref (b + k0), .ref (b + k1), vI x2] : List Value).toArray s 0 0 (frb b)) (F0 m 5 ls []) := by
  intro fu
  induction fu with
  | zero => intro M v3_ hv3_ v4_ hv4_ H locs ls hS hl hT; exact absurd hT (by simp [t_Scene_beat_L5])
  | succ fu ih =>
    intro M v3_ hv3_ v4_ hv4_ H locs ls hS hl hT
    rw [t_Scene_beat_L5] at hT
    refine lv_iload F.hx F.hb d_Scene_beat_5 (lv_at hl 4 rfl) ?_
    refine lv_aload_n F.hx F.hb d_Scene_beat_7 rfl (lv_at hl 1 rfl) ?_
    refine r_get (v := vI (M.1 k1 15)) (N := 20) (T := T11) (j := 15) F hS (Town_lt hk1) (Town_sh hk1) (Town_N hk1) rfl (Nat.le_of_ble_eq_true rfl) ing11 mw_144 (fv_int rfl) d_Scene_beat_8 ?_
    have i1 := hS.rng k1 15
    refine r_icmp_ge (tgt := 137) F.hx F.hb hv4_ i1 d_Scene_beat_11 (by decide) (fun c2 => ?_) (fun c2 => ?_)
    · replace hT := (if_pos c2).symm.trans hT
      refine lv_iload_n F.hx F.hb d_Scene_beat_137 rfl (lv_at hl 3 rfl) ?_
      cases hT
      exact r_iret F hlk hr rfl hS hv3_ d_Scene_beat_138
    · replace hT := (if_neg c2).symm.trans hT
      refine lv_aload_n F.hx F.hb d_Scene_beat_14 rfl (lv_at hl 0 rfl) ?_
      refine r_get (v := .ref (b + (k0 + 2))) (N := 7) (T := T9) (j := 1) F hS (Scene_lt hk0) (Scene_sh hk0) (Scene_N hk0) rfl (Nat.le_of_ble_eq_true rfl) ing9 mw_278 (Scene_g1 hk0 _) d_Scene_beat_15 ?_
      refine lv_iload F.hx F.hb d_Scene_beat_18 (lv_at hl 4 rfl) ?_
      obtain ⟨q3, hq3⟩ : ∃ q, q = (t_WF_look M (k0 + 2) 8 v4_) := ⟨_, rfl⟩
      replace hT := qlet_eq hT hq3
      refine r_backI F hS (r_runSN (As := [.ref (b + (k0 + 2)), vI v4_]) F hS (c_WF_look l F.2.2.1 M (k0 + 2) 8 v4_ (Scene_f1 hk0) hv4_ _ hq3.symm) mw_519 mw_518 mw_1 gs_Scene_56 hd_WF_look ⟨Nat.le_of_ble_eq_true rfl, Nat.le_of_ble_eq_true rfl⟩ rfl hl.1 (Nat.le_of_ble_eq_true rfl) ⟨Nat.zero_le _, Nat.zero_le _⟩ rfl d_Scene_beat_20) (fun H locs hS h4 => ?_)
      refine lv_istore (lv' := [(5, vI q3), (0, .ref (b + k0)), (1, .ref (b + k1)), (2, vI x2), (3, vI v3_), (4, vI v4_)]) F.hx F.hb d_Scene_beat_23 hl (Nat.le_of_ble_eq_true rfl) rfl (fun ls hl => ?_)
      refine lv_iload F.hx F.hb d_Scene_beat_25 (lv_at hl 0 rfl) ?_
      refine r_if_ge (tgt := 34) F.hx F.hb h4 d_Scene_beat_27 (by decide) (fun c5 => ?_) (fun c5 => ?_)
      · replace hT := (if_pos c5).symm.trans hT
        refine lv_aload_n F.hx F.hb d_Scene_beat_34 rfl (lv_at hl 1 rfl) ?_
        refine lv_aload_n F.hx F.hb d_Scene_beat_35 rfl (lv_at hl 2 rfl) ?_
        refine lv_iload F.hx F.hb d_Scene_beat_36 (lv_at hl 0 rfl) ?_
        obtain ⟨q6, hq6⟩ : ∃ q, q = (t_Scene_nextOf M k0 k1 q3) := ⟨_, rfl⟩
        replace hT := qlet_eq hT hq6
        refine r_backI F hS (r_runV (k := k0) (N := 7) (T := T9) (As := [.ref (b + k1), vI q3]) F hS (Scene_lt hk0) (Scene_sh hk0) rfl (c_Scene_nextOf l F.2.2.1 M k0 k1 q3 hk0 hk1 h4 _ hq6.symm) gs_Scene_83 hd_Scene_nextOf ⟨Nat.le_of_ble_eq_true rfl, Nat.le_of_ble_eq_true rfl⟩ rfl hl.1 (Nat.le_of_ble_eq_true rfl) ⟨Nat.zero_le _, Nat.zero_le _⟩ rfl d_Scene_beat_38) (fun H locs hS h7 => ?_)
        exact k_Scene_beat_L41 l hlo k0 k1 x2 hk0 hk1 hx2 F hlk hr (fun a0_ a1_ a2_ => t_Scene_beat_L5 k0 k1 x2 fu a0_ a1_ a2_) ih M v3_ hv3_ v4_ hv4_ q3 h4 q6 h7 _ _ _ hS (lv_sub hl [1, 2, 3, 4, 5, 0] rfl) hT
      · replace hT := (if_neg c5).symm.trans hT
        refine r_iconst F.hx F.hb d_Scene_beat_30 ?_
        refine lv_goto (tgt := 41) F.hx F.hb d_Scene_beat_31 (by decide) ?_
        exact k_Scene_beat_L41 l hlo k0 k1 x2 hk0 hk1 hx2 F hlk hr (fun a0_ a1_ a2_ => t_Scene_beat_L5 k0 k1 x2 fu a0_ a1_ a2_) ih M v3_ hv3_ v4_ hv4_ q3 h4 (-1) (inr_c rfl) _ _ _ hS (lv_sub hl [1, 2, 3, 4, 5, 0] rfl) hT
set_option maxHeartbeats 4000000 in
set_option maxRecDepth 100000 in
theorem c_Scene_beat (l : Launch) {b n : Nat} {C : CT} (hlo : 191 ≤ n) (M : Mem) (k0 : Nat) (k1 : Nat) (x2 : Int) (hk0 : isScene k0) (hk1 : isTown k1) (hx2 : InR x2) (res : Mem × Int) (hT : t_Scene_beat M k0 k1 x2 = some res) : CM l b C n 3 y_Scene_beat b_Scene_beat 7 (some .int) [.ref (b + k0), .ref (b + k1), vI x2] M (QI b C n res.1 res.2) := by
  refine CM.of (lo := 191) (ow := "WardFalls$Scene") (by decide) rfl (Nat.le_of_ble_eq_true rfl) hlo (fun p e s m below meth c F hlk hr hS ls hl => ?_)
  have hl : lv_has ls 7 [(0, .ref (b + k0)), (1, .ref (b + k1)), (2, vI x2)] := hl
  unfold t_Scene_beat at hT
  refine r_iconst F.hx F.hb d_Scene_beat_0 ?_
  refine lv_istore_n (lv' := [(3, vI 0), (0, .ref (b + k0)), (1, .ref (b + k1)), (2, vI x2)]) F.hx F.hb d_Scene_beat_1 rfl hl (Nat.le_of_ble_eq_true rfl) rfl (fun ls hl => ?_)
  refine r_iconst F.hx F.hb d_Scene_beat_2 ?_
  refine lv_istore (lv' := [(4, vI 0), (3, vI 0), (0, .ref (b + k0)), (1, .ref (b + k1)), (2, vI x2)]) F.hx F.hb d_Scene_beat_3 hl (Nat.le_of_ble_eq_true rfl) rfl (fun ls hl => ?_)
  exact k_Scene_beat_L5 l hlo k0 k1 x2 hk0 hk1 hx2 F hlk hr FU M 0 (inr_c rfl) 0 (inr_c rfl) _ _ _ hS (lv_sub hl [2, 3, 4, 1, 0] rfl) hT
theorem d_WF_beats_0 : decode b_WF_beats 0 = .ok (.iload_n 1, 1) := dc_27 (by decide +kernel)
theorem d_WF_beats_1 : decode b_WF_beats 1 = .ok (.ifCond .lt 10, 3) := dc_155 (by decide +kernel)
theorem d_WF_beats_4 : decode b_WF_beats 4 = .ok (.iload_n 1, 1) := dc_27 (by decide +kernel)
theorem d_WF_beats_5 : decode b_WF_beats 5 = .ok (.sipush 200, 3) := dc_17 (by decide +kernel)
theorem d_WF_beats_8 : decode b_WF_beats 8 = .ok (.if_icmp .le 5, 3) := dc_164 (by decide +kernel)
theorem d_WF_beats_11 : decode b_WF_beats 11 = .ok (.iconst (-1), 1) := dc_2 (by decide +kernel)
theorem d_WF_beats_12 : decode b_WF_beats 12 = .ok (.ireturn, 1) := dc_172 (by decide +kernel)
theorem d_WF_beats_13 : decode b_WF_beats 13 = .ok (.iconst 0, 1) := dc_3 (by decide +kernel)
theorem d_WF_beats_14 : decode b_WF_beats 14 = .ok (.istore_n 2, 1) := dc_61 (by decide +kernel)
theorem d_WF_beats_15 : decode b_WF_beats 15 = .ok (.iconst 0, 1) := dc_3 (by decide +kernel)
theorem d_WF_beats_16 : decode b_WF_beats 16 = .ok (.istore_n 3, 1) := dc_62 (by decide +kernel)
theorem d_WF_beats_17 : decode b_WF_beats 17 = .ok (.iload_n 3, 1) := dc_29 (by decide +kernel)
theorem d_WF_beats_18 : decode b_WF_beats 18 = .ok (.iload_n 1, 1) := dc_27 (by decide +kernel)
theorem d_WF_beats_19 : decode b_WF_beats 19 = .ok (.if_icmp .ge 24, 3) := dc_162 (by decide +kernel)
theorem d_WF_beats_22 : decode b_WF_beats 22 = .ok (.iload_n 2, 1) := dc_28 (by decide +kernel)
theorem d_WF_beats_23 : decode b_WF_beats 23 = .ok (.aload_n 0, 1) := dc_42 (by decide +kernel)
theorem d_WF_beats_24 : decode b_WF_beats 24 = .ok (.getfield 46, 3) := dc_180 (by decide +kernel)
theorem d_WF_beats_27 : decode b_WF_beats 27 = .ok (.aload_n 0, 1) := dc_42 (by decide +kernel)
theorem d_WF_beats_28 : decode b_WF_beats 28 = .ok (.getfield 22, 3) := dc_180 (by decide +kernel)
theorem d_WF_beats_31 : decode b_WF_beats 31 = .ok (.iconst 1, 1) := dc_4 (by decide +kernel)
theorem d_WF_beats_32 : decode b_WF_beats 32 = .ok (.invokevirtual 272, 3) := dc_182 (by decide +kernel)
theorem d_WF_beats_35 : decode b_WF_beats 35 = .ok (.iadd, 1) := dc_96 (by decide +kernel)
theorem d_WF_beats_36 : decode b_WF_beats 36 = .ok (.istore_n 2, 1) := dc_61 (by decide +kernel)
theorem d_WF_beats_37 : decode b_WF_beats 37 = .ok (.iinc 3 1, 3) := dc_132 (by decide +kernel)
theorem d_WF_beats_40 : decode b_WF_beats 40 = .ok (.goto (-23), 3) := dc_167 (by decide +kernel)
theorem d_WF_beats_43 : decode b_WF_beats 43 = .ok (.iload_n 1, 1) := dc_27 (by decide +kernel)
theorem d_WF_beats_44 : decode b_WF_beats 44 = .ok (.ifCond .le 31, 3) := dc_158 (by decide +kernel)
theorem d_WF_beats_47 : decode b_WF_beats 47 = .ok (.aload_n 0, 1) := dc_42 (by decide +kernel)
theorem d_WF_beats_48 : decode b_WF_beats 48 = .ok (.getfield 59, 3) := dc_180 (by decide +kernel)
theorem d_WF_beats_51 : decode b_WF_beats 51 = .ok (.dup, 1) := dc_89 (by decide +kernel)
theorem d_WF_beats_52 : decode b_WF_beats 52 = .ok (.getfield 276, 3) := dc_180 (by decide +kernel)
theorem d_WF_beats_55 : decode b_WF_beats 55 = .ok (.iload_n 1, 1) := dc_27 (by decide +kernel)
theorem d_WF_beats_56 : decode b_WF_beats 56 = .ok (.iadd, 1) := dc_96 (by decide +kernel)
theorem d_WF_beats_57 : decode b_WF_beats 57 = .ok (.putfield 276, 3) := dc_181 (by decide +kernel)
theorem d_WF_beats_60 : decode b_WF_beats 60 = .ok (.aload_n 0, 1) := dc_42 (by decide +kernel)
theorem d_WF_beats_61 : decode b_WF_beats 61 = .ok (.getfield 69, 3) := dc_180 (by decide +kernel)
theorem d_WF_beats_64 : decode b_WF_beats 64 = .ok (.invokevirtual 279, 3) := dc_182 (by decide +kernel)
theorem d_WF_beats_67 : decode b_WF_beats 67 = .ok (.aload_n 0, 1) := dc_42 (by decide +kernel)
theorem d_WF_beats_68 : decode b_WF_beats 68 = .ok (.getfield 83, 3) := dc_180 (by decide +kernel)
theorem d_WF_beats_71 : decode b_WF_beats 71 = .ok (.iconst 0, 1) := dc_3 (by decide +kernel)
theorem d_WF_beats_72 : decode b_WF_beats 72 = .ok (.putfield 280, 3) := dc_181 (by decide +kernel)
theorem d_WF_beats_75 : decode b_WF_beats 75 = .ok (.iload_n 2, 1) := dc_28 (by decide +kernel)
theorem d_WF_beats_76 : decode b_WF_beats 76 = .ok (.ireturn, 1) := dc_172 (by decide +kernel)
def t_WF_beats_L17 (x1 : Int)  : Nat → Mem → Int → Int → Option (Mem × Int)
  | 0, _, _, _ => none
  | fu + 1, M, v2_, v3_ => (if x1 ≤ v3_ then (if x1 ≤ 0 then (some (M, v2_)) else (qlet (setI M 62 4 (w32 ((M.1 62 4) + x1))) fun M6 => (qlet (t_Past_clear M6) fun q7 => (qlet (setI q7 177 8 0) fun M9 => (some (M9, v2_)))))) else (obind (t_Scene_beat M 47 ((M.1 0 4).toNat) 1) fun q11 => (t_WF_beats_L17 x1 fu (q11.1) (w32 (v2_ + (q11.2))) (w32 (v3_ + 1)))))
def t_WF_beats (M : Mem) (x1 : Int) : Option (Mem × Int) := (if x1 < 0 then (some (M, (-1))) else (if x1 ≤ 200 then (t_WF_beats_L17 x1 FU M 0 0) else (some (M, (-1)))))
set_option maxHeartbeats 4000000 in
set_option maxRecDepth 100000 in
theorem k_WF_beats_L17 (l : Launch) {p : Program} {e : Env} {s : State} {m : MethodId} {below : List Frame} {meth : Method} {c : Code} {b n : Nat} {C : CT} (hlo : 191 ≤ n) (x1 : Int) (hx1 : InR x1) (F : Cx b p m c b_WF_beats 4 s ([.ref (b + 0), vI x1] : List Value).toArray "WardFalls" C n 191) (hlk : meth.locks = false) (hr : meth.sig.returnType = some .int) {res : Mem × Int} : ∀ (fu : Nat) (M : Mem) (v2_ : Int) (hv2_ : InR v2_) (v3_ : Int) (hv3_ : InR v3_) (H : Heap) (locs : List Loc) (ls : Array Slot), St b C n M s H locs → lv_has ls 4 [(0, .ref (b + 0)), (1, vI x1), (2, vI v2_), (3, vI v3_)] → t_WF_beats_L17 x1 fu M v2_ v3_ = some res → W p l e (headSpec (wsM y_WF_beats b_WF_beats 4 (some .int)) (rmD 4)).room s m ([.ref (b + 0), vI x1] : List Value).toArray below meth c H locs 0 0 (MQ below (QI b C n res.1 res.2) ([.ref (b + 0), vI x1] : List Value).toArray s 0 0 (frb b)) (F0 m 17 ls []) := by
  intro fu
  induction fu with
  | zero => intro M v2_ hv2_ v3_ hv3_ H locs ls hS hl hT; exact absurd hT (by simp [t_WF_beats_L17])
  | succ fu ih =>
    intro M v2_ hv2_ v3_ hv3_ H locs ls hS hl hT
    rw [t_WF_beats_L17] at hT
    refine lv_iload_n F.hx F.hb d_WF_beats_17 rfl (lv_at hl 3 rfl) ?_
    refine lv_iload_n F.hx F.hb d_WF_beats_18 rfl (lv_at hl 1 rfl) ?_
    refine r_icmp_ge (tgt := 43) F.hx F.hb hv3_ hx1 d_WF_beats_19 (by decide) (fun c3 => ?_) (fun c3 => ?_)
    · replace hT := (if_pos c3).symm.trans hT
      refine lv_iload_n F.hx F.hb d_WF_beats_43 rfl (lv_at hl 1 rfl) ?_
      refine r_if_le (tgt := 75) F.hx F.hb hx1 d_WF_beats_44 (by decide) (fun c4 => ?_) (fun c4 => ?_)
      · replace hT := (if_pos c4).symm.trans hT
        refine lv_iload_n F.hx F.hb d_WF_beats_75 rfl (lv_at hl 2 rfl) ?_
        cases hT
        exact r_iret F hlk hr rfl hS hv2_ d_WF_beats_76
      · replace hT := (if_neg c4).symm.trans hT
        refine lv_aload_n F.hx F.hb d_WF_beats_47 rfl (lv_at hl 0 rfl) ?_
        refine r_get (v := .ref (b + 62)) (N := 19) (T := T0) (j := 11) F hS (show 0 < 191 by decide) (show shK 0 = 4 from rfl) (show shN 0 = 19 from rfl) rfl (Nat.le_of_ble_eq_true rfl) ing0 mw_561 (fv_sg rfl rfl rfl) d_WF_beats_48 ?_
        refine lv_dup F.hx F.hb d_WF_beats_51 rfl ?_
        refine r_get (v := vI (M.1 62 4)) (N := 6) (T := T2) (j := 4) F hS (show 62 < 191 by decide) (show shK 62 = 6 from rfl) (show shN 62 = 6 from rfl) rfl (Nat.le_of_ble_eq_true rfl) ing2 mw_323 (fv_int rfl) d_WF_beats_52 ?_
        have i5 := hS.rng 62 4
        refine lv_iload_n F.hx F.hb d_WF_beats_55 rfl (lv_at hl 1 rfl) ?_
        refine r_iadd F.hx F.hb d_WF_beats_56 ?_
        refine r_putI (N := 6) (T := T2) (j := 4) F hS (show 62 < 191 by decide) (show shK 62 = 6 from rfl) (show shN 62 = 6 from rfl) rfl (Nat.le_of_ble_eq_true rfl) ing2 tyok2 nm2 rfl rfl rfl rfl rfl rfl mw_323 (inr_w32 _) d_WF_beats_57 (fun H locs hS => ?_)
        obtain ⟨M6, eM6⟩ : ∃ q, q = (setI M 62 4 (w32 ((M.1 62 4) + x1))) := ⟨_, rfl⟩
        replace hS : St b C n M6 s H locs := by rw [eM6]; exact hS
        replace hT := qlet_eq hT eM6
        refine lv_aload_n F.hx F.hb d_WF_beats_60 rfl (lv_at hl 0 rfl) ?_
        refine r_get (v := .ref (b + 70)) (N := 19) (T := T0) (j := 14) F hS (show 0 < 191 by decide) (show shK 0 = 4 from rfl) (show shN 0 = 19 from rfl) rfl (Nat.le_of_ble_eq_true rfl) ing0 mw_564 (fv_sg rfl rfl rfl) d_WF_beats_61 ?_
        obtain ⟨q7, hq7⟩ : ∃ q, q = (t_Past_clear M6) := ⟨_, rfl⟩
        replace hT := qlet_eq hT hq7
        refine r_backV F hS (r_runV (k := 70) (N := 3) (T := T6) (As := []) F hS (show 70 < 191 by decide) (show shK 70 = 10 from rfl) rfl (c_Past_clear l F.2.2.1 M6 _ hq7.symm) gs_WF_279 hd_Past_clear ⟨Nat.le_of_ble_eq_true rfl, Nat.le_of_ble_eq_true rfl⟩ rfl hl.1 (Nat.le_of_ble_eq_true rfl) ⟨Nat.zero_le _, Nat.zero_le _⟩ rfl d_WF_beats_64) (fun H locs hS => ?_)
        refine lv_aload_n F.hx F.hb d_WF_beats_67 rfl (lv_at hl 0 rfl) ?_
        refine r_get (v := .ref (b + 177)) (N := 19) (T := T0) (j := 16) F hS (show 0 < 191 by decide) (show shK 0 = 4 from rfl) (show shN 0 = 19 from rfl) rfl (Nat.le_of_ble_eq_true rfl) ing0 mw_566 (fv_sg rfl rfl rfl) d_WF_beats_68 ?_
        refine r_iconst F.hx F.hb d_WF_beats_71 ?_
        refine r_putI (N := 9) (T := T4) (j := 8) F hS (show 177 < 191 by decide) (show shK 177 = 8 from rfl) (show shN 177 = 9 from rfl) rfl (Nat.le_of_ble_eq_true rfl) ing4 tyok4 nm4 rfl rfl (nar_z (Or.inl rfl)) (fit_z (Or.inl rfl)) rfl rfl mw_448 (inr_c rfl) d_WF_beats_72 (fun H locs hS => ?_)
        obtain ⟨M9, eM9⟩ : ∃ q, q = (setI q7 177 8 0) := ⟨_, rfl⟩
        replace hS : St b C n M9 s H locs := by rw [eM9]; exact hS
        replace hT := qlet_eq hT eM9
        refine lv_iload_n F.hx F.hb d_WF_beats_75 rfl (lv_at hl 2 rfl) ?_
        cases hT
        exact r_iret F hlk hr rfl hS hv2_ d_WF_beats_76
    · replace hT := (if_neg c3).symm.trans hT
      refine lv_iload_n F.hx F.hb d_WF_beats_22 rfl (lv_at hl 2 rfl) ?_
      refine lv_aload_n F.hx F.hb d_WF_beats_23 rfl (lv_at hl 0 rfl) ?_
      refine r_get (v := .ref (b + 47)) (N := 19) (T := T0) (j := 8) F hS (show 0 < 191 by decide) (show shK 0 = 4 from rfl) (show shN 0 = 19 from rfl) rfl (Nat.le_of_ble_eq_true rfl) ing0 mw_558 (fv_sg rfl rfl rfl) d_WF_beats_24 ?_
      refine lv_aload_n F.hx F.hb d_WF_beats_27 rfl (lv_at hl 0 rfl) ?_
      have h10 := St_town hS
      refine r_get (v := .ref (b + ((M.1 0 4).toNat))) (N := 19) (T := T0) (j := 4) F hS (show 0 < 191 by decide) (show shK 0 = 4 from rfl) (show shN 0 = 19 from rfl) rfl (Nat.le_of_ble_eq_true rfl) ing0 mw_554 (fv_town hS) d_WF_beats_28 ?_
      refine r_iconst F.hx F.hb d_WF_beats_31 ?_
      obtain ⟨q11, hq11, hT⟩ := q_obind hT
      refine r_backI F hS (r_runV (k := 47) (N := 7) (T := T9) (As := [.ref (b + ((M.1 0 4).toNat)), vI 1]) F hS (show 47 < 191 by decide) (show shK 47 = 13 from rfl) rfl (c_Scene_beat l F.2.2.1 M 47 ((M.1 0 4).toNat) 1 (by decide : isScene 47) h10 (inr_c rfl) _ hq11) gs_WF_272 hd_Scene_beat ⟨Nat.le_of_ble_eq_true rfl, Nat.le_of_ble_eq_true rfl⟩ rfl hl.1 (Nat.le_of_ble_eq_true rfl) ⟨Nat.zero_le _, Nat.zero_le _⟩ rfl d_WF_beats_32) (fun H locs hS h12 => ?_)
      refine r_iadd F.hx F.hb d_WF_beats_35 ?_
      refine lv_istore_n (lv' := [(2, vI (w32 (v2_ + (q11.2)))), (0, .ref (b + 0)), (1, vI x1), (3, vI v3_)]) F.hx F.hb d_WF_beats_36 rfl hl (Nat.le_of_ble_eq_true rfl) rfl (fun ls hl => ?_)
      refine lv_iinc (v := Int32.ofInt (w32 (v3_ + 1))) (lv' := [(3, vI (w32 (v3_ + 1))), (2, vI (w32 (v2_ + (q11.2)))), (0, .ref (b + 0)), (1, vI x1)]) F.hx F.hb d_WF_beats_37 hl (k := 3) rfl (q_of_add _ _) (Nat.le_of_ble_eq_true rfl) rfl (fun ls hl => ?_)
      refine lv_goto (tgt := 17) F.hx F.hb d_WF_beats_40 (by decide) ?_
      exact ih (q11.1) (w32 (v2_ + (q11.2))) (inr_w32 _) (w32 (v3_ + 1)) (inr_w32 _) _ _ _ hS (lv_sub hl [2, 3, 1, 0] rfl) hT
set_option maxHeartbeats 4000000 in
set_option maxRecDepth 100000 in
theorem c_WF_beats (l : Launch) {b n : Nat} {C : CT} (hlo : 191 ≤ n) (M : Mem) (x1 : Int) (hx1 : InR x1) (res : Mem × Int) (hT : t_WF_beats M x1 = some res) : CM l b C n 4 y_WF_beats b_WF_beats 4 (some .int) [.ref (b + 0), vI x1] M (QI b C n res.1 res.2) := by
  refine CM.of (lo := 191) (ow := "WardFalls") (by decide) rfl (Nat.le_of_ble_eq_true rfl) hlo (fun p e s m below meth c F hlk hr hS ls hl => ?_)
  have hl : lv_has ls 4 [(0, .ref (b + 0)), (1, vI x1)] := hl
  unfold t_WF_beats at hT
  refine lv_iload_n F.hx F.hb d_WF_beats_0 rfl (lv_at hl 1 rfl) ?_
  refine r_if_lt (tgt := 11) F.hx F.hb hx1 d_WF_beats_1 (by decide) (fun c1 => ?_) (fun c1 => ?_)
  · replace hT := (if_pos c1).symm.trans hT
    refine r_iconst F.hx F.hb d_WF_beats_11 ?_
    cases hT
    exact r_iret F hlk hr rfl hS (inr_c rfl) d_WF_beats_12
  · replace hT := (if_neg c1).symm.trans hT
    refine lv_iload_n F.hx F.hb d_WF_beats_4 rfl (lv_at hl 1 rfl) ?_
    refine r_sipush F.hx F.hb d_WF_beats_5 rfl ?_
    refine r_icmp_le (tgt := 13) F.hx F.hb hx1 (inr_c rfl) d_WF_beats_8 (by decide) (fun c2 => ?_) (fun c2 => ?_)
    · replace hT := (if_pos c2).symm.trans hT
      refine r_iconst F.hx F.hb d_WF_beats_13 ?_
      refine lv_istore_n (lv' := [(2, vI 0), (0, .ref (b + 0)), (1, vI x1)]) F.hx F.hb d_WF_beats_14 rfl hl (Nat.le_of_ble_eq_true rfl) rfl (fun ls hl => ?_)
      refine r_iconst F.hx F.hb d_WF_beats_15 ?_
      refine lv_istore_n (lv' := [(3, vI 0), (2, vI 0), (0, .ref (b + 0)), (1, vI x1)]) F.hx F.hb d_WF_beats_16 rfl hl (Nat.le_of_ble_eq_true rfl) rfl (fun ls hl => ?_)
      exact k_WF_beats_L17 l hlo x1 hx1 F hlk hr FU M 0 (inr_c rfl) 0 (inr_c rfl) _ _ _ hS (lv_sub hl [2, 3, 1, 0] rfl) hT
    · replace hT := (if_neg c2).symm.trans hT
      refine r_iconst F.hx F.hb d_WF_beats_11 ?_
      cases hT
      exact r_iret F hlk hr rfl hS (inr_c rfl) d_WF_beats_12
