theorem wn_Formula_value_0 : ∀ i, i < 94 → bA b_Formula_value (0 + i) = wB [3, 61, 3, 62, 29, 42, 180, 0, 25, 162, 0, 225, 42, 180, 0, 29, 153, 0, 218, 42, 180, 0, 9, 29, 184, 0, 54, 54, 4, 21, 4, 16, 31, 159, 0, 11, 21, 4, 184, 0, 76, 153, 0, 56, 28, 42, 180, 0, 18, 190, 161, 0, 7, 20, 0, 101, 173, 42, 180, 0, 18, 28, 21, 4, 16, 31, 160, 0, 15, 42, 180, 0, 15, 29, 184, 0, 54, 133, 167, 0, 12, 43, 21, 4, 16, 18, 100, 184, 0, 103, 80, 132, 2, 1] i := wB_of (by decide +kernel)
theorem d_Formula_value_0 : decode b_Formula_value 0 = .ok (.iconst 0, 1) := dc_3 (q0_win (r := 0) wn_Formula_value_0 (by decide +kernel))
theorem d_Formula_value_1 : decode b_Formula_value 1 = .ok (.istore_n 2, 1) := dc_61 (q0_win (r := 1) wn_Formula_value_0 (by decide +kernel))
theorem d_Formula_value_2 : decode b_Formula_value 2 = .ok (.iconst 0, 1) := dc_3 (q0_win (r := 2) wn_Formula_value_0 (by decide +kernel))
theorem d_Formula_value_3 : decode b_Formula_value 3 = .ok (.istore_n 3, 1) := dc_62 (q0_win (r := 3) wn_Formula_value_0 (by decide +kernel))
theorem d_Formula_value_4 : decode b_Formula_value 4 = .ok (.iload_n 3, 1) := dc_29 (q0_win (r := 4) wn_Formula_value_0 (by decide +kernel))
theorem d_Formula_value_5 : decode b_Formula_value 5 = .ok (.aload_n 0, 1) := dc_42 (q0_win (r := 5) wn_Formula_value_0 (by decide +kernel))
theorem d_Formula_value_6 : decode b_Formula_value 6 = .ok (.getfield 25, 3) := dc_180 (qU2_win (r := 6) wn_Formula_value_0 (by decide +kernel))
theorem d_Formula_value_9 : decode b_Formula_value 9 = .ok (.if_icmp .ge 225, 3) := dc_162 (qS2_win (r := 9) wn_Formula_value_0 (by decide +kernel))
theorem d_Formula_value_12 : decode b_Formula_value 12 = .ok (.aload_n 0, 1) := dc_42 (q0_win (r := 12) wn_Formula_value_0 (by decide +kernel))
theorem d_Formula_value_13 : decode b_Formula_value 13 = .ok (.getfield 29, 3) := dc_180 (qU2_win (r := 13) wn_Formula_value_0 (by decide +kernel))
theorem d_Formula_value_16 : decode b_Formula_value 16 = .ok (.ifCond .eq 218, 3) := dc_153 (qS2_win (r := 16) wn_Formula_value_0 (by decide +kernel))
theorem d_Formula_value_19 : decode b_Formula_value 19 = .ok (.aload_n 0, 1) := dc_42 (q0_win (r := 19) wn_Formula_value_0 (by decide +kernel))
theorem d_Formula_value_20 : decode b_Formula_value 20 = .ok (.getfield 9, 3) := dc_180 (qU2_win (r := 20) wn_Formula_value_0 (by decide +kernel))
theorem d_Formula_value_23 : decode b_Formula_value 23 = .ok (.iload_n 3, 1) := dc_29 (q0_win (r := 23) wn_Formula_value_0 (by decide +kernel))
theorem d_Formula_value_24 : decode b_Formula_value 24 = .ok (.invokestatic 54, 3) := dc_184 (qU2_win (r := 24) wn_Formula_value_0 (by decide +kernel))
theorem d_Formula_value_27 : decode b_Formula_value 27 = .ok (.istore 4, 2) := dc_54 (qU1_win (r := 27) wn_Formula_value_0 (by decide +kernel))
theorem d_Formula_value_29 : decode b_Formula_value 29 = .ok (.iload 4, 2) := dc_21 (qU1_win (r := 29) wn_Formula_value_0 (by decide +kernel))
theorem d_Formula_value_31 : decode b_Formula_value 31 = .ok (.bipush 31, 2) := dc_16 (qS1_win (r := 31) wn_Formula_value_0 (by decide +kernel))
theorem d_Formula_value_33 : decode b_Formula_value 33 = .ok (.if_icmp .eq 11, 3) := dc_159 (qS2_win (r := 33) wn_Formula_value_0 (by decide +kernel))
theorem d_Formula_value_36 : decode b_Formula_value 36 = .ok (.iload 4, 2) := dc_21 (qU1_win (r := 36) wn_Formula_value_0 (by decide +kernel))
theorem d_Formula_value_38 : decode b_Formula_value 38 = .ok (.invokestatic 76, 3) := dc_184 (qU2_win (r := 38) wn_Formula_value_0 (by decide +kernel))
theorem d_Formula_value_41 : decode b_Formula_value 41 = .ok (.ifCond .eq 56, 3) := dc_153 (qS2_win (r := 41) wn_Formula_value_0 (by decide +kernel))
theorem d_Formula_value_44 : decode b_Formula_value 44 = .ok (.iload_n 2, 1) := dc_28 (q0_win (r := 44) wn_Formula_value_0 (by decide +kernel))
theorem d_Formula_value_45 : decode b_Formula_value 45 = .ok (.aload_n 0, 1) := dc_42 (q0_win (r := 45) wn_Formula_value_0 (by decide +kernel))
theorem d_Formula_value_46 : decode b_Formula_value 46 = .ok (.getfield 18, 3) := dc_180 (qU2_win (r := 46) wn_Formula_value_0 (by decide +kernel))
theorem d_Formula_value_49 : decode b_Formula_value 49 = .ok (.arraylength, 1) := dc_190 (q0_win (r := 49) wn_Formula_value_0 (by decide +kernel))
theorem d_Formula_value_50 : decode b_Formula_value 50 = .ok (.if_icmp .lt 7, 3) := dc_161 (qS2_win (r := 50) wn_Formula_value_0 (by decide +kernel))
theorem d_Formula_value_53 : decode b_Formula_value 53 = .ok (.ldc2_w 101, 3) := dc_20 (qU2_win (r := 53) wn_Formula_value_0 (by decide +kernel))
theorem d_Formula_value_56 : decode b_Formula_value 56 = .ok (.lreturn, 1) := dc_173 (q0_win (r := 56) wn_Formula_value_0 (by decide +kernel))
theorem d_Formula_value_57 : decode b_Formula_value 57 = .ok (.aload_n 0, 1) := dc_42 (q0_win (r := 57) wn_Formula_value_0 (by decide +kernel))
theorem d_Formula_value_58 : decode b_Formula_value 58 = .ok (.getfield 18, 3) := dc_180 (qU2_win (r := 58) wn_Formula_value_0 (by decide +kernel))
theorem d_Formula_value_61 : decode b_Formula_value 61 = .ok (.iload_n 2, 1) := dc_28 (q0_win (r := 61) wn_Formula_value_0 (by decide +kernel))
theorem d_Formula_value_62 : decode b_Formula_value 62 = .ok (.iload 4, 2) := dc_21 (qU1_win (r := 62) wn_Formula_value_0 (by decide +kernel))
theorem d_Formula_value_64 : decode b_Formula_value 64 = .ok (.bipush 31, 2) := dc_16 (qS1_win (r := 64) wn_Formula_value_0 (by decide +kernel))
theorem d_Formula_value_66 : decode b_Formula_value 66 = .ok (.if_icmp .ne 15, 3) := dc_160 (qS2_win (r := 66) wn_Formula_value_0 (by decide +kernel))
theorem d_Formula_value_69 : decode b_Formula_value 69 = .ok (.aload_n 0, 1) := dc_42 (q0_win (r := 69) wn_Formula_value_0 (by decide +kernel))
theorem d_Formula_value_70 : decode b_Formula_value 70 = .ok (.getfield 15, 3) := dc_180 (qU2_win (r := 70) wn_Formula_value_0 (by decide +kernel))
theorem d_Formula_value_73 : decode b_Formula_value 73 = .ok (.iload_n 3, 1) := dc_29 (q0_win (r := 73) wn_Formula_value_0 (by decide +kernel))
theorem d_Formula_value_74 : decode b_Formula_value 74 = .ok (.invokestatic 54, 3) := dc_184 (qU2_win (r := 74) wn_Formula_value_0 (by decide +kernel))
theorem d_Formula_value_77 : decode b_Formula_value 77 = .ok (.i2l, 1) := dc_133 (q0_win (r := 77) wn_Formula_value_0 (by decide +kernel))
theorem d_Formula_value_78 : decode b_Formula_value 78 = .ok (.goto 12, 3) := dc_167 (qS2_win (r := 78) wn_Formula_value_0 (by decide +kernel))
theorem d_Formula_value_81 : decode b_Formula_value 81 = .ok (.aload_n 1, 1) := dc_43 (q0_win (r := 81) wn_Formula_value_0 (by decide +kernel))
theorem d_Formula_value_82 : decode b_Formula_value 82 = .ok (.iload 4, 2) := dc_21 (qU1_win (r := 82) wn_Formula_value_0 (by decide +kernel))
theorem d_Formula_value_84 : decode b_Formula_value 84 = .ok (.bipush 18, 2) := dc_16 (qS1_win (r := 84) wn_Formula_value_0 (by decide +kernel))
theorem d_Formula_value_86 : decode b_Formula_value 86 = .ok (.isub, 1) := dc_100 (q0_win (r := 86) wn_Formula_value_0 (by decide +kernel))
theorem d_Formula_value_87 : decode b_Formula_value 87 = .ok (.invokestatic 103, 3) := dc_184 (qU2_win (r := 87) wn_Formula_value_0 (by decide +kernel))
theorem d_Formula_value_90 : decode b_Formula_value 90 = .ok (.lastore, 1) := dc_80 (q0_win (r := 90) wn_Formula_value_0 (by decide +kernel))
theorem d_Formula_value_91 : decode b_Formula_value 91 = .ok (.iinc 2 1, 3) := dc_132 (qI_win (r := 91) wn_Formula_value_0 (by decide +kernel))
theorem wn_Formula_value_94 : ∀ i, i < 94 → bA b_Formula_value (94 + i) = wB [167, 0, 134, 28, 158, 0, 51, 28, 42, 180, 0, 18, 190, 163, 0, 42, 21, 4, 16, 17, 160, 0, 35, 42, 180, 0, 18, 28, 4, 100, 42, 180, 0, 18, 28, 4, 100, 47, 9, 148, 154, 0, 7, 4, 167, 0, 4, 3, 184, 0, 107, 80, 167, 0, 82, 28, 4, 164, 0, 73, 28, 42, 180, 0, 18, 190, 163, 0, 64, 21, 4, 42, 180, 0, 18, 28, 5, 100, 47, 42, 180, 0, 18, 28, 4, 100, 47, 184, 0, 111, 55, 5, 22, 5] i := wB_of (by decide +kernel)
theorem d_Formula_value_94 : decode b_Formula_value 94 = .ok (.goto 134, 3) := dc_167 (qS2_win (r := 0) wn_Formula_value_94 (by decide +kernel))
theorem d_Formula_value_97 : decode b_Formula_value 97 = .ok (.iload_n 2, 1) := dc_28 (q0_win (r := 3) wn_Formula_value_94 (by decide +kernel))
theorem d_Formula_value_98 : decode b_Formula_value 98 = .ok (.ifCond .le 51, 3) := dc_158 (qS2_win (r := 4) wn_Formula_value_94 (by decide +kernel))
theorem d_Formula_value_101 : decode b_Formula_value 101 = .ok (.iload_n 2, 1) := dc_28 (q0_win (r := 7) wn_Formula_value_94 (by decide +kernel))
theorem d_Formula_value_102 : decode b_Formula_value 102 = .ok (.aload_n 0, 1) := dc_42 (q0_win (r := 8) wn_Formula_value_94 (by decide +kernel))
theorem d_Formula_value_103 : decode b_Formula_value 103 = .ok (.getfield 18, 3) := dc_180 (qU2_win (r := 9) wn_Formula_value_94 (by decide +kernel))
theorem d_Formula_value_106 : decode b_Formula_value 106 = .ok (.arraylength, 1) := dc_190 (q0_win (r := 12) wn_Formula_value_94 (by decide +kernel))
theorem d_Formula_value_107 : decode b_Formula_value 107 = .ok (.if_icmp .gt 42, 3) := dc_163 (qS2_win (r := 13) wn_Formula_value_94 (by decide +kernel))
theorem d_Formula_value_110 : decode b_Formula_value 110 = .ok (.iload 4, 2) := dc_21 (qU1_win (r := 16) wn_Formula_value_94 (by decide +kernel))
theorem d_Formula_value_112 : decode b_Formula_value 112 = .ok (.bipush 17, 2) := dc_16 (qS1_win (r := 18) wn_Formula_value_94 (by decide +kernel))
theorem d_Formula_value_114 : decode b_Formula_value 114 = .ok (.if_icmp .ne 35, 3) := dc_160 (qS2_win (r := 20) wn_Formula_value_94 (by decide +kernel))
theorem d_Formula_value_117 : decode b_Formula_value 117 = .ok (.aload_n 0, 1) := dc_42 (q0_win (r := 23) wn_Formula_value_94 (by decide +kernel))
theorem d_Formula_value_118 : decode b_Formula_value 118 = .ok (.getfield 18, 3) := dc_180 (qU2_win (r := 24) wn_Formula_value_94 (by decide +kernel))
theorem d_Formula_value_121 : decode b_Formula_value 121 = .ok (.iload_n 2, 1) := dc_28 (q0_win (r := 27) wn_Formula_value_94 (by decide +kernel))
theorem d_Formula_value_122 : decode b_Formula_value 122 = .ok (.iconst 1, 1) := dc_4 (q0_win (r := 28) wn_Formula_value_94 (by decide +kernel))
theorem d_Formula_value_123 : decode b_Formula_value 123 = .ok (.isub, 1) := dc_100 (q0_win (r := 29) wn_Formula_value_94 (by decide +kernel))
theorem d_Formula_value_124 : decode b_Formula_value 124 = .ok (.aload_n 0, 1) := dc_42 (q0_win (r := 30) wn_Formula_value_94 (by decide +kernel))
theorem d_Formula_value_125 : decode b_Formula_value 125 = .ok (.getfield 18, 3) := dc_180 (qU2_win (r := 31) wn_Formula_value_94 (by decide +kernel))
theorem d_Formula_value_128 : decode b_Formula_value 128 = .ok (.iload_n 2, 1) := dc_28 (q0_win (r := 34) wn_Formula_value_94 (by decide +kernel))
theorem d_Formula_value_129 : decode b_Formula_value 129 = .ok (.iconst 1, 1) := dc_4 (q0_win (r := 35) wn_Formula_value_94 (by decide +kernel))
theorem d_Formula_value_130 : decode b_Formula_value 130 = .ok (.isub, 1) := dc_100 (q0_win (r := 36) wn_Formula_value_94 (by decide +kernel))
theorem d_Formula_value_131 : decode b_Formula_value 131 = .ok (.laload, 1) := dc_47 (q0_win (r := 37) wn_Formula_value_94 (by decide +kernel))
theorem d_Formula_value_132 : decode b_Formula_value 132 = .ok (.lconst 0, 1) := dc_9 (q0_win (r := 38) wn_Formula_value_94 (by decide +kernel))
theorem d_Formula_value_133 : decode b_Formula_value 133 = .ok (.lcmp, 1) := dc_148 (q0_win (r := 39) wn_Formula_value_94 (by decide +kernel))
theorem d_Formula_value_134 : decode b_Formula_value 134 = .ok (.ifCond .ne 7, 3) := dc_154 (qS2_win (r := 40) wn_Formula_value_94 (by decide +kernel))
theorem d_Formula_value_137 : decode b_Formula_value 137 = .ok (.iconst 1, 1) := dc_4 (q0_win (r := 43) wn_Formula_value_94 (by decide +kernel))
theorem d_Formula_value_138 : decode b_Formula_value 138 = .ok (.goto 4, 3) := dc_167 (qS2_win (r := 44) wn_Formula_value_94 (by decide +kernel))
theorem d_Formula_value_141 : decode b_Formula_value 141 = .ok (.iconst 0, 1) := dc_3 (q0_win (r := 47) wn_Formula_value_94 (by decide +kernel))
theorem d_Formula_value_142 : decode b_Formula_value 142 = .ok (.invokestatic 107, 3) := dc_184 (qU2_win (r := 48) wn_Formula_value_94 (by decide +kernel))
theorem d_Formula_value_145 : decode b_Formula_value 145 = .ok (.lastore, 1) := dc_80 (q0_win (r := 51) wn_Formula_value_94 (by decide +kernel))
theorem d_Formula_value_146 : decode b_Formula_value 146 = .ok (.goto 82, 3) := dc_167 (qS2_win (r := 52) wn_Formula_value_94 (by decide +kernel))
theorem d_Formula_value_149 : decode b_Formula_value 149 = .ok (.iload_n 2, 1) := dc_28 (q0_win (r := 55) wn_Formula_value_94 (by decide +kernel))
theorem d_Formula_value_150 : decode b_Formula_value 150 = .ok (.iconst 1, 1) := dc_4 (q0_win (r := 56) wn_Formula_value_94 (by decide +kernel))
theorem d_Formula_value_151 : decode b_Formula_value 151 = .ok (.if_icmp .le 73, 3) := dc_164 (qS2_win (r := 57) wn_Formula_value_94 (by decide +kernel))
theorem d_Formula_value_154 : decode b_Formula_value 154 = .ok (.iload_n 2, 1) := dc_28 (q0_win (r := 60) wn_Formula_value_94 (by decide +kernel))
theorem d_Formula_value_155 : decode b_Formula_value 155 = .ok (.aload_n 0, 1) := dc_42 (q0_win (r := 61) wn_Formula_value_94 (by decide +kernel))
theorem d_Formula_value_156 : decode b_Formula_value 156 = .ok (.getfield 18, 3) := dc_180 (qU2_win (r := 62) wn_Formula_value_94 (by decide +kernel))
theorem d_Formula_value_159 : decode b_Formula_value 159 = .ok (.arraylength, 1) := dc_190 (q0_win (r := 65) wn_Formula_value_94 (by decide +kernel))
theorem d_Formula_value_160 : decode b_Formula_value 160 = .ok (.if_icmp .gt 64, 3) := dc_163 (qS2_win (r := 66) wn_Formula_value_94 (by decide +kernel))
theorem d_Formula_value_163 : decode b_Formula_value 163 = .ok (.iload 4, 2) := dc_21 (qU1_win (r := 69) wn_Formula_value_94 (by decide +kernel))
theorem d_Formula_value_165 : decode b_Formula_value 165 = .ok (.aload_n 0, 1) := dc_42 (q0_win (r := 71) wn_Formula_value_94 (by decide +kernel))
theorem d_Formula_value_166 : decode b_Formula_value 166 = .ok (.getfield 18, 3) := dc_180 (qU2_win (r := 72) wn_Formula_value_94 (by decide +kernel))
theorem d_Formula_value_169 : decode b_Formula_value 169 = .ok (.iload_n 2, 1) := dc_28 (q0_win (r := 75) wn_Formula_value_94 (by decide +kernel))
theorem d_Formula_value_170 : decode b_Formula_value 170 = .ok (.iconst 2, 1) := dc_5 (q0_win (r := 76) wn_Formula_value_94 (by decide +kernel))
theorem d_Formula_value_171 : decode b_Formula_value 171 = .ok (.isub, 1) := dc_100 (q0_win (r := 77) wn_Formula_value_94 (by decide +kernel))
theorem d_Formula_value_172 : decode b_Formula_value 172 = .ok (.laload, 1) := dc_47 (q0_win (r := 78) wn_Formula_value_94 (by decide +kernel))
theorem d_Formula_value_173 : decode b_Formula_value 173 = .ok (.aload_n 0, 1) := dc_42 (q0_win (r := 79) wn_Formula_value_94 (by decide +kernel))
theorem d_Formula_value_174 : decode b_Formula_value 174 = .ok (.getfield 18, 3) := dc_180 (qU2_win (r := 80) wn_Formula_value_94 (by decide +kernel))
theorem d_Formula_value_177 : decode b_Formula_value 177 = .ok (.iload_n 2, 1) := dc_28 (q0_win (r := 83) wn_Formula_value_94 (by decide +kernel))
theorem d_Formula_value_178 : decode b_Formula_value 178 = .ok (.iconst 1, 1) := dc_4 (q0_win (r := 84) wn_Formula_value_94 (by decide +kernel))
theorem d_Formula_value_179 : decode b_Formula_value 179 = .ok (.isub, 1) := dc_100 (q0_win (r := 85) wn_Formula_value_94 (by decide +kernel))
theorem d_Formula_value_180 : decode b_Formula_value 180 = .ok (.laload, 1) := dc_47 (q0_win (r := 86) wn_Formula_value_94 (by decide +kernel))
theorem d_Formula_value_181 : decode b_Formula_value 181 = .ok (.invokestatic 111, 3) := dc_184 (qU2_win (r := 87) wn_Formula_value_94 (by decide +kernel))
theorem d_Formula_value_184 : decode b_Formula_value 184 = .ok (.lstore 5, 2) := dc_55 (qU1_win (r := 90) wn_Formula_value_94 (by decide +kernel))
theorem d_Formula_value_186 : decode b_Formula_value 186 = .ok (.lload 5, 2) := dc_22 (qU1_win (r := 92) wn_Formula_value_94 (by decide +kernel))
theorem wn_Formula_value_188 : ∀ i, i < 64 → bA b_Formula_value (188 + i) = wB [20, 0, 115, 148, 157, 0, 12, 22, 5, 20, 0, 117, 148, 156, 0, 7, 20, 0, 101, 173, 42, 180, 0, 18, 28, 5, 100, 22, 5, 80, 132, 2, 255, 167, 0, 7, 20, 0, 101, 173, 132, 3, 1, 167, 255, 29, 28, 4, 160, 0, 12, 42, 180, 0, 18, 3, 47, 167, 0, 6, 20, 0, 101, 173] i := wB_of (by decide +kernel)
theorem d_Formula_value_188 : decode b_Formula_value 188 = .ok (.ldc2_w 115, 3) := dc_20 (qU2_win (r := 0) wn_Formula_value_188 (by decide +kernel))
theorem d_Formula_value_191 : decode b_Formula_value 191 = .ok (.lcmp, 1) := dc_148 (q0_win (r := 3) wn_Formula_value_188 (by decide +kernel))
theorem d_Formula_value_192 : decode b_Formula_value 192 = .ok (.ifCond .gt 12, 3) := dc_157 (qS2_win (r := 4) wn_Formula_value_188 (by decide +kernel))
theorem d_Formula_value_195 : decode b_Formula_value 195 = .ok (.lload 5, 2) := dc_22 (qU1_win (r := 7) wn_Formula_value_188 (by decide +kernel))
theorem d_Formula_value_197 : decode b_Formula_value 197 = .ok (.ldc2_w 117, 3) := dc_20 (qU2_win (r := 9) wn_Formula_value_188 (by decide +kernel))
theorem d_Formula_value_200 : decode b_Formula_value 200 = .ok (.lcmp, 1) := dc_148 (q0_win (r := 12) wn_Formula_value_188 (by decide +kernel))
theorem d_Formula_value_201 : decode b_Formula_value 201 = .ok (.ifCond .ge 7, 3) := dc_156 (qS2_win (r := 13) wn_Formula_value_188 (by decide +kernel))
theorem d_Formula_value_204 : decode b_Formula_value 204 = .ok (.ldc2_w 101, 3) := dc_20 (qU2_win (r := 16) wn_Formula_value_188 (by decide +kernel))
theorem d_Formula_value_207 : decode b_Formula_value 207 = .ok (.lreturn, 1) := dc_173 (q0_win (r := 19) wn_Formula_value_188 (by decide +kernel))
theorem d_Formula_value_208 : decode b_Formula_value 208 = .ok (.aload_n 0, 1) := dc_42 (q0_win (r := 20) wn_Formula_value_188 (by decide +kernel))
theorem d_Formula_value_209 : decode b_Formula_value 209 = .ok (.getfield 18, 3) := dc_180 (qU2_win (r := 21) wn_Formula_value_188 (by decide +kernel))
theorem d_Formula_value_212 : decode b_Formula_value 212 = .ok (.iload_n 2, 1) := dc_28 (q0_win (r := 24) wn_Formula_value_188 (by decide +kernel))
theorem d_Formula_value_213 : decode b_Formula_value 213 = .ok (.iconst 2, 1) := dc_5 (q0_win (r := 25) wn_Formula_value_188 (by decide +kernel))
theorem d_Formula_value_214 : decode b_Formula_value 214 = .ok (.isub, 1) := dc_100 (q0_win (r := 26) wn_Formula_value_188 (by decide +kernel))
theorem d_Formula_value_215 : decode b_Formula_value 215 = .ok (.lload 5, 2) := dc_22 (qU1_win (r := 27) wn_Formula_value_188 (by decide +kernel))
theorem d_Formula_value_217 : decode b_Formula_value 217 = .ok (.lastore, 1) := dc_80 (q0_win (r := 29) wn_Formula_value_188 (by decide +kernel))
theorem d_Formula_value_218 : decode b_Formula_value 218 = .ok (.iinc 2 (-1), 3) := dc_132 (qI_win (r := 30) wn_Formula_value_188 (by decide +kernel))
theorem d_Formula_value_221 : decode b_Formula_value 221 = .ok (.goto 7, 3) := dc_167 (qS2_win (r := 33) wn_Formula_value_188 (by decide +kernel))
theorem d_Formula_value_224 : decode b_Formula_value 224 = .ok (.ldc2_w 101, 3) := dc_20 (qU2_win (r := 36) wn_Formula_value_188 (by decide +kernel))
theorem d_Formula_value_227 : decode b_Formula_value 227 = .ok (.lreturn, 1) := dc_173 (q0_win (r := 39) wn_Formula_value_188 (by decide +kernel))
theorem d_Formula_value_228 : decode b_Formula_value 228 = .ok (.iinc 3 1, 3) := dc_132 (qI_win (r := 40) wn_Formula_value_188 (by decide +kernel))
theorem d_Formula_value_231 : decode b_Formula_value 231 = .ok (.goto (-227), 3) := dc_167 (qS2_win (r := 43) wn_Formula_value_188 (by decide +kernel))
theorem d_Formula_value_234 : decode b_Formula_value 234 = .ok (.iload_n 2, 1) := dc_28 (q0_win (r := 46) wn_Formula_value_188 (by decide +kernel))
theorem d_Formula_value_235 : decode b_Formula_value 235 = .ok (.iconst 1, 1) := dc_4 (q0_win (r := 47) wn_Formula_value_188 (by decide +kernel))
theorem d_Formula_value_236 : decode b_Formula_value 236 = .ok (.if_icmp .ne 12, 3) := dc_160 (qS2_win (r := 48) wn_Formula_value_188 (by decide +kernel))
theorem d_Formula_value_239 : decode b_Formula_value 239 = .ok (.aload_n 0, 1) := dc_42 (q0_win (r := 51) wn_Formula_value_188 (by decide +kernel))
theorem d_Formula_value_240 : decode b_Formula_value 240 = .ok (.getfield 18, 3) := dc_180 (qU2_win (r := 52) wn_Formula_value_188 (by decide +kernel))
theorem d_Formula_value_243 : decode b_Formula_value 243 = .ok (.iconst 0, 1) := dc_3 (q0_win (r := 55) wn_Formula_value_188 (by decide +kernel))
theorem d_Formula_value_244 : decode b_Formula_value 244 = .ok (.laload, 1) := dc_47 (q0_win (r := 56) wn_Formula_value_188 (by decide +kernel))
theorem d_Formula_value_245 : decode b_Formula_value 245 = .ok (.goto 6, 3) := dc_167 (qS2_win (r := 57) wn_Formula_value_188 (by decide +kernel))
theorem d_Formula_value_248 : decode b_Formula_value 248 = .ok (.ldc2_w 101, 3) := dc_20 (qU2_win (r := 60) wn_Formula_value_188 (by decide +kernel))
theorem d_Formula_value_251 : decode b_Formula_value 251 = .ok (.lreturn, 1) := dc_173 (q0_win (r := 63) wn_Formula_value_188 (by decide +kernel))
def t_Formula_value_L228 (k0 : Nat) (r1 : Nat) (N1 : Nat) (bk4 : Mem → Int → Int → Option (Mem × Int64)) (M : Mem) (v2_ : Int) (v3_ : Int) : Option (Mem × Int64) := (bk4 M v2_ (w32 (v3_ + 1)))
def t_Formula_value_L90 (k0 : Nat) (r1 : Nat) (N1 : Nat) (bk4 : Mem → Int → Int → Option (Mem × Int64)) (M : Mem) (v2_ : Int) (v3_ : Int) (v5_ : Int) (v6_ : Int64) : Option (Mem × Int64) := (qguard (0 ≤ v5_ ∧ v5_ < 64) (qlet (setL M (k0 + 3) v5_ v6_) fun M38 => (t_Formula_value_L228 k0 r1 N1 bk4 M38 (w32 (v2_ + 1)) v3_)))
def t_Formula_value_L44 (k0 : Nat) (r1 : Nat) (N1 : Nat) (bk4 : Mem → Int → Int → Option (Mem × Int64)) (M : Mem) (v2_ : Int) (v3_ : Int) (v4_ : Int) : Option (Mem × Int64) := (if v2_ < 64 then (if v4_ = 31 then (qlet (t_WF_look M (k0 + 2) 64 v3_) fun q21 => (t_Formula_value_L90 k0 r1 N1 bk4 M v2_ v3_ v2_ (q_i2l q21))) else (qlet (t_Formula_valueOf M r1 N1 (w32 (v4_ - 18))) fun q19 => (t_Formula_value_L90 k0 r1 N1 bk4 M v2_ v3_ v2_ q19))) else (some (M, (-9223372036854775808))))
def t_Formula_value_L142 (k0 : Nat) (r1 : Nat) (N1 : Nat) (bk4 : Mem → Int → Int → Option (Mem × Int64)) (M : Mem) (v2_ : Int) (v3_ : Int) (v5_ : Int) (v6_ : Int) : Option (Mem × Int64) := (qlet (t_Formula_asBit M v6_) fun q33 => (qguard (0 ≤ v5_ ∧ v5_ < 64) (qlet (setL M (k0 + 3) v5_ q33) fun M36 => (t_Formula_value_L228 k0 r1 N1 bk4 M36 v2_ v3_))))
def t_Formula_value_L149 (k0 : Nat) (r1 : Nat) (N1 : Nat) (bk4 : Mem → Int → Int → Option (Mem × Int64)) (M : Mem) (v2_ : Int) (v3_ : Int) (v4_ : Int) : Option (Mem × Int64) := (if v2_ ≤ 1 then (some (M, (-9223372036854775808))) else (if 64 < v2_ then (some (M, (-9223372036854775808))) else (qguard (0 ≤ (w32 (v2_ - 2)) ∧ (w32 (v2_ - 2)) < 64) (qguard (0 ≤ (w32 (v2_ - 1)) ∧ (w32 (v2_ - 1)) < 64) (obind (t_Formula_join M v4_ (M.2 (k0 + 3) (w32 (v2_ - 2))) (M.2 (k0 + 3) (w32 (v2_ - 1)))) fun q27 => (if 1000000000000 < q27 then (some (M, (-9223372036854775808))) else (if (-1000000000000) ≤ q27 then (qguard (0 ≤ (w32 (v2_ - 2)) ∧ (w32 (v2_ - 2)) < 64) (qlet (setL M (k0 + 3) (w32 (v2_ - 2)) q27) fun M32 => (t_Formula_value_L228 k0 r1 N1 bk4 M32 (w32 (v2_ + (-1))) v3_))) else (some (M, (-9223372036854775808))))))))))
def t_Formula_value_L234 (k0 : Nat) (r1 : Nat) (N1 : Nat)  (M : Mem) (v1_ : Int) : Option (Mem × Int64) := (if v1_ = 1 then (some (M, (M.2 (k0 + 3) 0))) else (some (M, (-9223372036854775808))))
def t_Formula_value_L4 (k0 : Nat) (r1 : Nat) (N1 : Nat)  : Nat → Mem → Int → Int → Option (Mem × Int64)
  | 0, _, _, _ => none
  | fu + 1, M, v2_, v3_ => (if (M.1 k0 3) ≤ v3_ then (t_Formula_value_L234 k0 r1 N1 M v2_) else (if (M.1 k0 4) = 0 then (t_Formula_value_L234 k0 r1 N1 M v2_) else (qlet (t_WF_look M (k0 + 1) 64 v3_) fun q5 => (if q5 = 31 then (t_Formula_value_L44 k0 r1 N1 (fun a0_ a1_ a2_ => t_Formula_value_L4 k0 r1 N1 fu a0_ a1_ a2_) M v2_ v3_ q5) else (qlet (t_Formula_isName M q5) fun q8 => (if q8 = 0 then (if v2_ ≤ 0 then (t_Formula_value_L149 k0 r1 N1 (fun a0_ a1_ a2_ => t_Formula_value_L4 k0 r1 N1 fu a0_ a1_ a2_) M v2_ v3_ q5) else (if 64 < v2_ then (t_Formula_value_L149 k0 r1 N1 (fun a0_ a1_ a2_ => t_Formula_value_L4 k0 r1 N1 fu a0_ a1_ a2_) M v2_ v3_ q5) else (if q5 = 17 then (qguard (0 ≤ (w32 (v2_ - 1)) ∧ (w32 (v2_ - 1)) < 64) (if (M.2 (k0 + 3) (w32 (v2_ - 1))) = 0 then (t_Formula_value_L142 k0 r1 N1 (fun a0_ a1_ a2_ => t_Formula_value_L4 k0 r1 N1 fu a0_ a1_ a2_) M v2_ v3_ (w32 (v2_ - 1)) 1) else (t_Formula_value_L142 k0 r1 N1 (fun a0_ a1_ a2_ => t_Formula_value_L4 k0 r1 N1 fu a0_ a1_ a2_) M v2_ v3_ (w32 (v2_ - 1)) 0))) else (t_Formula_value_L149 k0 r1 N1 (fun a0_ a1_ a2_ => t_Formula_value_L4 k0 r1 N1 fu a0_ a1_ a2_) M v2_ v3_ q5)))) else (t_Formula_value_L44 k0 r1 N1 (fun a0_ a1_ a2_ => t_Formula_value_L4 k0 r1 N1 fu a0_ a1_ a2_) M v2_ v3_ q5)))))))
def t_Formula_value (M : Mem) (k0 : Nat) (r1 : Nat) (N1 : Nat) : Option (Mem × Int64) := (t_Formula_value_L4 k0 r1 N1 FU M 0 0)
set_option maxHeartbeats 4000000 in
set_option maxRecDepth 100000 in
theorem k_Formula_value_L228 (l : Launch) {p : Program} {e : Env} {s : State} {m : MethodId} {below : List Frame} {meth : Method} {c : Code} {b n : Nat} {C : CT} (hlo : 191 ≤ n) (k0 : Nat) (r1 : Nat) (N1 : Nat) (hk0 : isFormula k0) (hr1 : arrP 2 r1 N1 191) (F : Cx b p m c b_Formula_value 7 s ([.ref (b + k0), .ref (b + r1)] : List Value).toArray "WardFalls$Formula" C n 191) (hlk : meth.locks = false) (hr : meth.sig.returnType = some .long) {res : Mem × Int64} (bk4 : Mem → Int → Int → Option (Mem × Int64)) (hbk4 : ∀ (M : Mem) (v2_ : Int) (hv2_ : InR v2_) (v3_ : Int) (hv3_ : InR v3_) (H : Heap) (locs : List Loc) (ls : Array Slot), St b C n M s H locs → lv_has ls 7 [(0, .ref (b + k0)), (1, .ref (b + r1)), (2, vI v2_), (3, vI v3_)] → bk4 M v2_ v3_ = some res → W p l e (headSpec (wsM y_Formula_value b_Formula_value 7 (some .long)) (rmD 3)).room s m ([.ref (b + k0), .ref (b + r1)] : List Value).toArray below meth c H locs 0 0 (MQ below (QL b C n res.1 res.2) ([.ref (b + k0), .ref (b + r1)] : List Value).toArray s 0 0 (frb b)) (F0 m 4 ls [])) (M : Mem) (v2_ : Int) (hv2_ : InR v2_) (v3_ : Int) (hv3_ : InR v3_) (H : Heap) (locs : List Loc) (ls : Array Slot) (hS : St b C n M s H locs) (hl : lv_has ls 7 [(0, .ref (b + k0)), (1, .ref (b + r1)), (2, vI v2_), (3, vI v3_)]) (hT : t_Formula_value_L228 k0 r1 N1 bk4 M v2_ v3_ = some res) : W p l e (headSpec (wsM y_Formula_value b_Formula_value 7 (some .long)) (rmD 3)).room s m ([.ref (b + k0), .ref (b + r1)] : List Value).toArray below meth c H locs 0 0 (MQ below (QL b C n res.1 res.2) ([.ref (b + k0), .ref (b + r1)] : List Value).toArray s 0 0 (frb b)) (F0 m 228 ls []) := by
  unfold t_Formula_value_L228 at hT
  refine lv_iinc (v := Int32.ofInt (w32 (v3_ + 1))) (lv' := [(3, vI (w32 (v3_ + 1))), (0, .ref (b + k0)), (1, .ref (b + r1)), (2, vI v2_)]) F.hx F.hb d_Formula_value_228 hl (k := 3) rfl (q_of_add _ _) (Nat.le_of_ble_eq_true rfl) rfl (fun ls hl => ?_)
  refine lv_goto (tgt := 4) F.hx F.hb d_Formula_value_231 (by decide) ?_
  exact hbk4 M v2_ hv2_ (w32 (v3_ + 1)) (inr_w32 _) _ _ _ hS (lv_sub hl [1, 2, 3, 0] rfl) hT
set_option maxHeartbeats 4000000 in
set_option maxRecDepth 100000 in
theorem k_Formula_value_L90 (l : Launch) {p : Program} {e : Env} {s : State} {m : MethodId} {below : List Frame} {meth : Method} {c : Code} {b n : Nat} {C : CT} (hlo : 191 ≤ n) (k0 : Nat) (r1 : Nat) (N1 : Nat) (hk0 : isFormula k0) (hr1 : arrP 2 r1 N1 191) (F : Cx b p m c b_Formula_value 7 s ([.ref (b + k0), .ref (b + r1)] : List Value).toArray "WardFalls$Formula" C n 191) (hlk : meth.locks = false) (hr : meth.sig.returnType = some .long) {res : Mem × Int64} (bk4 : Mem → Int → Int → Option (Mem × Int64)) (hbk4 : ∀ (M : Mem) (v2_ : Int) (hv2_ : InR v2_) (v3_ : Int) (hv3_ : InR v3_) (H : Heap) (locs : List Loc) (ls : Array Slot), St b C n M s H locs → lv_has ls 7 [(0, .ref (b + k0)), (1, .ref (b + r1)), (2, vI v2_), (3, vI v3_)] → bk4 M v2_ v3_ = some res → W p l e (headSpec (wsM y_Formula_value b_Formula_value 7 (some .long)) (rmD 3)).room s m ([.ref (b + k0), .ref (b + r1)] : List Value).toArray below meth c H locs 0 0 (MQ below (QL b C n res.1 res.2) ([.ref (b + k0), .ref (b + r1)] : List Value).toArray s 0 0 (frb b)) (F0 m 4 ls [])) (M : Mem) (v2_ : Int) (hv2_ : InR v2_) (v3_ : Int) (hv3_ : InR v3_) (v5_ : Int) (hv5_ : InR v5_) (v6_ : Int64) (H : Heap) (locs : List Loc) (ls : Array Slot) (hS : St b C n M s H locs) (hl : lv_has ls 7 [(0, .ref (b + k0)), (1, .ref (b + r1)), (2, vI v2_), (3, vI v3_)]) (hT : t_Formula_value_L90 k0 r1 N1 bk4 M v2_ v3_ v5_ v6_ = some res) : W p l e (headSpec (wsM y_Formula_value b_Formula_value 7 (some .long)) (rmD 3)).room s m ([.ref (b + k0), .ref (b + r1)] : List Value).toArray below meth c H locs 0 0 (MQ below (QL b C n res.1 res.2) ([.ref (b + k0), .ref (b + r1)] : List Value).toArray s 0 0 (frb b)) (F0 m 90 ls [.long v6_, vI v5_, .ref (b + (k0 + 3))]) := by
  unfold t_Formula_value_L90 at hT
  obtain ⟨⟨g37a, g37b⟩, hT⟩ := q_guard hT
  refine r_last F hS (Formula_f2 hk0).2.2 (Formula_f2 hk0).1 (Formula_f2 hk0).2.1 hv5_ g37a g37b d_Formula_value_90 (fun H locs hS => ?_)
  obtain ⟨M38, eM38⟩ : ∃ q, q = (setL M (k0 + 3) v5_ v6_) := ⟨_, rfl⟩
  replace hS : St b C n M38 s H locs := by rw [eM38]; exact hS
  replace hT := qlet_eq hT eM38
  refine lv_iinc (v := Int32.ofInt (w32 (v2_ + 1))) (lv' := [(2, vI (w32 (v2_ + 1))), (0, .ref (b + k0)), (1, .ref (b + r1)), (3, vI v3_)]) F.hx F.hb d_Formula_value_91 hl (k := 2) rfl (q_of_add _ _) (Nat.le_of_ble_eq_true rfl) rfl (fun ls hl => ?_)
  refine lv_goto (tgt := 228) F.hx F.hb d_Formula_value_94 (by decide) ?_
  exact k_Formula_value_L228 l hlo k0 r1 N1 hk0 hr1 F hlk hr bk4 hbk4 M38 (w32 (v2_ + 1)) (inr_w32 _) v3_ hv3_ _ _ _ hS (lv_sub hl [1, 2, 0, 3] rfl) hT
set_option maxHeartbeats 4000000 in
set_option maxRecDepth 100000 in
theorem k_Formula_value_L44 (l : Launch) {p : Program} {e : Env} {s : State} {m : MethodId} {below : List Frame} {meth : Method} {c : Code} {b n : Nat} {C : CT} (hlo : 191 ≤ n) (k0 : Nat) (r1 : Nat) (N1 : Nat) (hk0 : isFormula k0) (hr1 : arrP 2 r1 N1 191) (F : Cx b p m c b_Formula_value 7 s ([.ref (b + k0), .ref (b + r1)] : List Value).toArray "WardFalls$Formula" C n 191) (hlk : meth.locks = false) (hr : meth.sig.returnType = some .long) {res : Mem × Int64} (bk4 : Mem → Int → Int → Option (Mem × Int64)) (hbk4 : ∀ (M : Mem) (v2_ : Int) (hv2_ : InR v2_) (v3_ : Int) (hv3_ : InR v3_) (H : Heap) (locs : List Loc) (ls : Array Slot), St b C n M s H locs → lv_has ls 7 [(0, .ref (b + k0)), (1, .ref (b + r1)), (2, vI v2_), (3, vI v3_)] → bk4 M v2_ v3_ = some res → W p l e (headSpec (wsM y_Formula_value b_Formula_value 7 (some .long)) (rmD 3)).room s m ([.ref (b + k0), .ref (b + r1)] : List Value).toArray below meth c H locs 0 0 (MQ below (QL b C n res.1 res.2) ([.ref (b + k0), .ref (b + r1)] : List Value).toArray s 0 0 (frb b)) (F0 m 4 ls [])) (M : Mem) (v2_ : Int) (hv2_ : InR v2_) (v3_ : Int) (hv3_ : InR v3_) (v4_ : Int) (hv4_ : InR v4_) (H : Heap) (locs : List Loc) (ls : Array Slot) (hS : St b C n M s H locs) (hl : lv_has ls 7 [(0, .ref (b + k0)), (1, .ref (b + r1)), (2, vI v2_), (3, vI v3_), (4, vI v4_)]) (hT : t_Formula_value_L44 k0 r1 N1 bk4 M v2_ v3_ v4_ = some res) : W p l e (headSpec (wsM y_Formula_value b_Formula_value 7 (some .long)) (rmD 3)).room s m ([.ref (b + k0), .ref (b + r1)] : List Value).toArray below meth c H locs 0 0 (MQ below (QL b C n res.1 res.2) ([.ref (b + k0), .ref (b + r1)] : List Value).toArray s 0 0 (frb b)) (F0 m 44 ls []) := by
  unfold t_Formula_value_L44 at hT
  refine lv_iload_n F.hx F.hb d_Formula_value_44 rfl (lv_at hl 2 rfl) ?_
  refine lv_aload_n F.hx F.hb d_Formula_value_45 rfl (lv_at hl 0 rfl) ?_
  refine r_get (v := .ref (b + (k0 + 3))) (N := 12) (T := T3) (j := 2) F hS (Formula_lt hk0) (Formula_sh hk0) (Formula_N hk0) rfl (Nat.le_of_ble_eq_true rfl) ing3 mw_49 (Formula_g2 hk0 _) d_Formula_value_46 ?_
  refine r_alen F hS (Formula_f2 hk0).2.2 (by rw [(Formula_f2 hk0).1]; decide) (Formula_f2 hk0).2.1 d_Formula_value_49 rfl ?_
  refine r_icmp_lt (tgt := 57) F.hx F.hb hv2_ (inr_c rfl) d_Formula_value_50 (by decide) (fun c17 => ?_) (fun c17 => ?_)
  · replace hT := (if_pos c17).symm.trans hT
    refine lv_aload_n F.hx F.hb d_Formula_value_57 rfl (lv_at hl 0 rfl) ?_
    refine r_get (v := .ref (b + (k0 + 3))) (N := 12) (T := T3) (j := 2) F hS (Formula_lt hk0) (Formula_sh hk0) (Formula_N hk0) rfl (Nat.le_of_ble_eq_true rfl) ing3 mw_49 (Formula_g2 hk0 _) d_Formula_value_58 ?_
    refine lv_iload_n F.hx F.hb d_Formula_value_61 rfl (lv_at hl 2 rfl) ?_
    refine lv_iload F.hx F.hb d_Formula_value_62 (lv_at hl 4 rfl) ?_
    refine r_bipush F.hx F.hb d_Formula_value_64 rfl ?_
    refine r_icmp_ne (tgt := 81) F.hx F.hb hv4_ (inr_c rfl) d_Formula_value_66 (by decide) (fun c18 => ?_) (fun c18 => ?_)
    · replace hT := (if_neg c18).symm.trans hT
      refine lv_aload_n F.hx F.hb d_Formula_value_81 rfl (lv_at hl 1 rfl) ?_
      refine lv_iload F.hx F.hb d_Formula_value_82 (lv_at hl 4 rfl) ?_
      refine r_bipush F.hx F.hb d_Formula_value_84 rfl ?_
      refine r_isub F.hx F.hb d_Formula_value_86 ?_
      obtain ⟨q19, hq19⟩ : ∃ q, q = (t_Formula_valueOf M r1 N1 (w32 (v4_ - 18))) := ⟨_, rfl⟩
      replace hT := qlet_eq hT hq19
      refine r_backL F hS (r_runS (As := [.ref (b + r1), vI (w32 (v4_ - 18))]) F hS (c_Formula_valueOf l F.2.2.1 M r1 N1 (w32 (v4_ - 18)) hr1 (inr_w32 _) _ hq19.symm) gs_Formula_103 hd_Formula_valueOf ⟨Nat.le_of_ble_eq_true rfl, Nat.le_of_ble_eq_true rfl⟩ rfl hl.1 (Nat.le_of_ble_eq_true rfl) ⟨Nat.zero_le _, Nat.zero_le _⟩ rfl d_Formula_value_87) (fun H locs hS => ?_)
      exact k_Formula_value_L90 l hlo k0 r1 N1 hk0 hr1 F hlk hr bk4 hbk4 M v2_ hv2_ v3_ hv3_ v2_ hv2_ q19 _ _ _ hS (lv_sub hl [0, 1, 2, 3] rfl) hT
    · replace hT := (if_pos c18).symm.trans hT
      refine lv_aload_n F.hx F.hb d_Formula_value_69 rfl (lv_at hl 0 rfl) ?_
      refine r_get (v := .ref (b + (k0 + 2))) (N := 12) (T := T3) (j := 1) F hS (Formula_lt hk0) (Formula_sh hk0) (Formula_N hk0) rfl (Nat.le_of_ble_eq_true rfl) ing3 mw_48 (Formula_g1 hk0 _) d_Formula_value_70 ?_
      refine lv_iload_n F.hx F.hb d_Formula_value_73 rfl (lv_at hl 3 rfl) ?_
      obtain ⟨q21, hq21⟩ : ∃ q, q = (t_WF_look M (k0 + 2) 64 v3_) := ⟨_, rfl⟩
      replace hT := qlet_eq hT hq21
      refine r_backI F hS (r_runSN (As := [.ref (b + (k0 + 2)), vI v3_]) F hS (c_WF_look l F.2.2.1 M (k0 + 2) 64 v3_ (Formula_f1 hk0) hv3_ _ hq21.symm) mw_519 mw_518 mw_1 gs_Formula_54 hd_WF_look ⟨Nat.le_of_ble_eq_true rfl, Nat.le_of_ble_eq_true rfl⟩ rfl hl.1 (Nat.le_of_ble_eq_true rfl) ⟨Nat.zero_le _, Nat.zero_le _⟩ rfl d_Formula_value_74) (fun H locs hS h22 => ?_)
      refine r_i2l F.hx F.hb d_Formula_value_77 ?_
      refine lv_goto (tgt := 90) F.hx F.hb d_Formula_value_78 (by decide) ?_
      exact k_Formula_value_L90 l hlo k0 r1 N1 hk0 hr1 F hlk hr bk4 hbk4 M v2_ hv2_ v3_ hv3_ v2_ hv2_ (q_i2l q21) _ _ _ hS (lv_sub hl [0, 1, 2, 3] rfl) hT
  · replace hT := (if_neg c17).symm.trans hT
    refine lv_ldc2 (v := (-9223372036854775808)) F.hx F.hb F.hown (F.hts mw_902) d_Formula_value_53 ?_
    cases hT
    exact r_lret F hlk hr hS d_Formula_value_56
set_option maxHeartbeats 4000000 in
set_option maxRecDepth 100000 in
theorem k_Formula_value_L142 (l : Launch) {p : Program} {e : Env} {s : State} {m : MethodId} {below : List Frame} {meth : Method} {c : Code} {b n : Nat} {C : CT} (hlo : 191 ≤ n) (k0 : Nat) (r1 : Nat) (N1 : Nat) (hk0 : isFormula k0) (hr1 : arrP 2 r1 N1 191) (F : Cx b p m c b_Formula_value 7 s ([.ref (b + k0), .ref (b + r1)] : List Value).toArray "WardFalls$Formula" C n 191) (hlk : meth.locks = false) (hr : meth.sig.returnType = some .long) {res : Mem × Int64} (bk4 : Mem → Int → Int → Option (Mem × Int64)) (hbk4 : ∀ (M : Mem) (v2_ : Int) (hv2_ : InR v2_) (v3_ : Int) (hv3_ : InR v3_) (H : Heap) (locs : List Loc) (ls : Array Slot), St b C n M s H locs → lv_has ls 7 [(0, .ref (b + k0)), (1, .ref (b + r1)), (2, vI v2_), (3, vI v3_)] → bk4 M v2_ v3_ = some res → W p l e (headSpec (wsM y_Formula_value b_Formula_value 7 (some .long)) (rmD 3)).room s m ([.ref (b + k0), .ref (b + r1)] : List Value).toArray below meth c H locs 0 0 (MQ below (QL b C n res.1 res.2) ([.ref (b + k0), .ref (b + r1)] : List Value).toArray s 0 0 (frb b)) (F0 m 4 ls [])) (M : Mem) (v2_ : Int) (hv2_ : InR v2_) (v3_ : Int) (hv3_ : InR v3_) (v5_ : Int) (hv5_ : InR v5_) (v6_ : Int) (hv6_ : v6_ = 0 ∨ v6_ = 1) (H : Heap) (locs : List Loc) (ls : Array Slot) (hS : St b C n M s H locs) (hl : lv_has ls 7 [(0, .ref (b + k0)), (1, .ref (b + r1)), (2, vI v2_), (3, vI v3_)]) (hT : t_Formula_value_L142 k0 r1 N1 bk4 M v2_ v3_ v5_ v6_ = some res) : W p l e (headSpec (wsM y_Formula_value b_Formula_value 7 (some .long)) (rmD 3)).room s m ([.ref (b + k0), .ref (b + r1)] : List Value).toArray below meth c H locs 0 0 (MQ below (QL b C n res.1 res.2) ([.ref (b + k0), .ref (b + r1)] : List Value).toArray s 0 0 (frb b)) (F0 m 142 ls [vI v6_, vI v5_, .ref (b + (k0 + 3))]) := by
  unfold t_Formula_value_L142 at hT
  obtain ⟨q33, hq33⟩ : ∃ q, q = (t_Formula_asBit M v6_) := ⟨_, rfl⟩
  replace hT := qlet_eq hT hq33
  refine r_backL F hS (r_runS (As := [vI v6_]) F hS (c_Formula_asBit l F.2.2.1 M v6_ (inr_z hv6_) _ hq33.symm) gs_Formula_107 hd_Formula_asBit ⟨Nat.le_of_ble_eq_true rfl, Nat.le_of_ble_eq_true rfl⟩ rfl hl.1 (Nat.le_of_ble_eq_true rfl) ⟨Nat.zero_le _, Nat.zero_le _⟩ rfl d_Formula_value_142) (fun H locs hS => ?_)
  obtain ⟨⟨g35a, g35b⟩, hT⟩ := q_guard hT
  refine r_last F hS (Formula_f2 hk0).2.2 (Formula_f2 hk0).1 (Formula_f2 hk0).2.1 hv5_ g35a g35b d_Formula_value_145 (fun H locs hS => ?_)
  obtain ⟨M36, eM36⟩ : ∃ q, q = (setL M (k0 + 3) v5_ q33) := ⟨_, rfl⟩
  replace hS : St b C n M36 s H locs := by rw [eM36]; exact hS
  replace hT := qlet_eq hT eM36
  refine lv_goto (tgt := 228) F.hx F.hb d_Formula_value_146 (by decide) ?_
  exact k_Formula_value_L228 l hlo k0 r1 N1 hk0 hr1 F hlk hr bk4 hbk4 M36 v2_ hv2_ v3_ hv3_ _ _ _ hS (lv_sub hl [0, 1, 2, 3] rfl) hT
set_option maxHeartbeats 4000000 in
set_option maxRecDepth 100000 in
theorem k_Formula_value_L149 (l : Launch) {p : Program} {e : Env} {s : State} {m : MethodId} {below : List Frame} {meth : Method} {c : Code} {b n : Nat} {C : CT} (hlo : 191 ≤ n) (k0 : Nat) (r1 : Nat) (N1 : Nat) (hk0 : isFormula k0) (hr1 : arrP 2 r1 N1 191) (F : Cx b p m c b_Formula_value 7 s ([.ref (b + k0), .ref (b + r1)] : List Value).toArray "WardFalls$Formula" C n 191) (hlk : meth.locks = false) (hr : meth.sig.returnType = some .long) {res : Mem × Int64} (bk4 : Mem → Int → Int → Option (Mem × Int64)) (hbk4 : ∀ (M : Mem) (v2_ : Int) (hv2_ : InR v2_) (v3_ : Int) (hv3_ : InR v3_) (H : Heap) (locs : List Loc) (ls : Array Slot), St b C n M s H locs → lv_has ls 7 [(0, .ref (b + k0)), (1, .ref (b + r1)), (2, vI v2_), (3, vI v3_)] → bk4 M v2_ v3_ = some res → W p l e (headSpec (wsM y_Formula_value b_Formula_value 7 (some .long)) (rmD 3)).room s m ([.ref (b + k0), .ref (b + r1)] : List Value).toArray below meth c H locs 0 0 (MQ below (QL b C n res.1 res.2) ([.ref (b + k0), .ref (b + r1)] : List Value).toArray s 0 0 (frb b)) (F0 m 4 ls [])) (M : Mem) (v2_ : Int) (hv2_ : InR v2_) (v3_ : Int) (hv3_ : InR v3_) (v4_ : Int) (hv4_ : InR v4_) (H : Heap) (locs : List Loc) (ls : Array Slot) (hS : St b C n M s H locs) (hl : lv_has ls 7 [(0, .ref (b + k0)), (1, .ref (b + r1)), (2, vI v2_), (3, vI v3_), (4, vI v4_)]) (hT : t_Formula_value_L149 k0 r1 N1 bk4 M v2_ v3_ v4_ = some res) : W p l e (headSpec (wsM y_Formula_value b_Formula_value 7 (some .long)) (rmD 3)).room s m ([.ref (b + k0), .ref (b + r1)] : List Value).toArray below meth c H locs 0 0 (MQ below (QL b C n res.1 res.2) ([.ref (b + k0), .ref (b + r1)] : List Value).toArray s 0 0 (frb b)) (F0 m 149 ls []) := by
  unfold t_Formula_value_L149 at hT
  refine lv_iload_n F.hx F.hb d_Formula_value_149 rfl (lv_at hl 2 rfl) ?_
  refine r_iconst F.hx F.hb d_Formula_value_150 ?_
  refine r_icmp_le (tgt := 224) F.hx F.hb hv2_ (inr_c rfl) d_Formula_value_151 (by decide) (fun c23 => ?_) (fun c23 => ?_)
  · replace hT := (if_pos c23).symm.trans hT
    refine lv_ldc2 (v := (-9223372036854775808)) F.hx F.hb F.hown (F.hts mw_902) d_Formula_value_224 ?_
    cases hT
    exact r_lret F hlk hr hS d_Formula_value_227
  · replace hT := (if_neg c23).symm.trans hT
    refine lv_iload_n F.hx F.hb d_Formula_value_154 rfl (lv_at hl 2 rfl) ?_
    refine lv_aload_n F.hx F.hb d_Formula_value_155 rfl (lv_at hl 0 rfl) ?_
    refine r_get (v := .ref (b + (k0 + 3))) (N := 12) (T := T3) (j := 2) F hS (Formula_lt hk0) (Formula_sh hk0) (Formula_N hk0) rfl (Nat.le_of_ble_eq_true rfl) ing3 mw_49 (Formula_g2 hk0 _) d_Formula_value_156 ?_
    refine r_alen F hS (Formula_f2 hk0).2.2 (by rw [(Formula_f2 hk0).1]; decide) (Formula_f2 hk0).2.1 d_Formula_value_159 rfl ?_
    refine r_icmp_gt (tgt := 224) F.hx F.hb hv2_ (inr_c rfl) d_Formula_value_160 (by decide) (fun c24 => ?_) (fun c24 => ?_)
    · replace hT := (if_pos c24).symm.trans hT
      refine lv_ldc2 (v := (-9223372036854775808)) F.hx F.hb F.hown (F.hts mw_902) d_Formula_value_224 ?_
      cases hT
      exact r_lret F hlk hr hS d_Formula_value_227
    · replace hT := (if_neg c24).symm.trans hT
      refine lv_iload F.hx F.hb d_Formula_value_163 (lv_at hl 4 rfl) ?_
      refine lv_aload_n F.hx F.hb d_Formula_value_165 rfl (lv_at hl 0 rfl) ?_
      refine r_get (v := .ref (b + (k0 + 3))) (N := 12) (T := T3) (j := 2) F hS (Formula_lt hk0) (Formula_sh hk0) (Formula_N hk0) rfl (Nat.le_of_ble_eq_true rfl) ing3 mw_49 (Formula_g2 hk0 _) d_Formula_value_166 ?_
      refine lv_iload_n F.hx F.hb d_Formula_value_169 rfl (lv_at hl 2 rfl) ?_
      refine r_iconst F.hx F.hb d_Formula_value_170 ?_
      refine r_isub F.hx F.hb d_Formula_value_171 ?_
      obtain ⟨⟨g25a, g25b⟩, hT⟩ := q_guard hT
      refine r_lald F hS (Formula_f2 hk0).2.2 (Formula_f2 hk0).1 (Formula_f2 hk0).2.1 (inr_w32 _) g25a g25b d_Formula_value_172 ?_
      refine lv_aload_n F.hx F.hb d_Formula_value_173 rfl (lv_at hl 0 rfl) ?_
      refine r_get (v := .ref (b + (k0 + 3))) (N := 12) (T := T3) (j := 2) F hS (Formula_lt hk0) (Formula_sh hk0) (Formula_N hk0) rfl (Nat.le_of_ble_eq_true rfl) ing3 mw_49 (Formula_g2 hk0 _) d_Formula_value_174 ?_
      refine lv_iload_n F.hx F.hb d_Formula_value_177 rfl (lv_at hl 2 rfl) ?_
      refine r_iconst F.hx F.hb d_Formula_value_178 ?_
      refine r_isub F.hx F.hb d_Formula_value_179 ?_
      obtain ⟨⟨g26a, g26b⟩, hT⟩ := q_guard hT
      refine r_lald F hS (Formula_f2 hk0).2.2 (Formula_f2 hk0).1 (Formula_f2 hk0).2.1 (inr_w32 _) g26a g26b d_Formula_value_180 ?_
      obtain ⟨q27, hq27, hT⟩ := q_obind hT
      refine r_backL F hS (r_runS (As := [vI v4_, .long (M.2 (k0 + 3) (w32 (v2_ - 2))), .long (M.2 (k0 + 3) (w32 (v2_ - 1)))]) F hS (c_Formula_join l F.2.2.1 M v4_ (M.2 (k0 + 3) (w32 (v2_ - 2))) (M.2 (k0 + 3) (w32 (v2_ - 1))) hv4_ _ hq27) gs_Formula_111 hd_Formula_join ⟨Nat.le_of_ble_eq_true rfl, Nat.le_of_ble_eq_true rfl⟩ rfl hl.1 (Nat.le_of_ble_eq_true rfl) ⟨Nat.zero_le _, Nat.zero_le _⟩ rfl d_Formula_value_181) (fun H locs hS => ?_)
      refine lv_lstore (lv' := [(5, .long q27), (0, .ref (b + k0)), (1, .ref (b + r1)), (2, vI v2_), (3, vI v3_), (4, vI v4_)]) F.hx F.hb d_Formula_value_184 hl (Nat.le_of_ble_eq_true rfl) rfl (fun ls hl => ?_)
      refine lv_lload F.hx F.hb d_Formula_value_186 (lv_at hl 0 rfl) ?_
      refine lv_ldc2 (v := 1000000000000) F.hx F.hb F.hown (F.hts mw_918) d_Formula_value_188 ?_
      refine W.lcmp F.hx F.hb d_Formula_value_191 ?_
      refine r_lif_gt (tgt := 204) F.hx F.hb  d_Formula_value_192 (by decide) (fun c29 => ?_) (fun c29 => ?_)
      · replace hT := (if_pos c29).symm.trans hT
        refine lv_ldc2 (v := (-9223372036854775808)) F.hx F.hb F.hown (F.hts mw_902) d_Formula_value_204 ?_
        cases hT
        exact r_lret F hlk hr hS d_Formula_value_207
      · replace hT := (if_neg c29).symm.trans hT
        refine lv_lload F.hx F.hb d_Formula_value_195 (lv_at hl 0 rfl) ?_
        refine lv_ldc2 (v := (-1000000000000)) F.hx F.hb F.hown (F.hts mw_919) d_Formula_value_197 ?_
        refine W.lcmp F.hx F.hb d_Formula_value_200 ?_
        refine r_lif_ge (tgt := 208) F.hx F.hb  d_Formula_value_201 (by decide) (fun c30 => ?_) (fun c30 => ?_)
        · replace hT := (if_pos c30).symm.trans hT
          refine lv_aload_n F.hx F.hb d_Formula_value_208 rfl (lv_at hl 1 rfl) ?_
          refine r_get (v := .ref (b + (k0 + 3))) (N := 12) (T := T3) (j := 2) F hS (Formula_lt hk0) (Formula_sh hk0) (Formula_N hk0) rfl (Nat.le_of_ble_eq_true rfl) ing3 mw_49 (Formula_g2 hk0 _) d_Formula_value_209 ?_
          refine lv_iload_n F.hx F.hb d_Formula_value_212 rfl (lv_at hl 3 rfl) ?_
          refine r_iconst F.hx F.hb d_Formula_value_213 ?_
          refine r_isub F.hx F.hb d_Formula_value_214 ?_
          refine lv_lload F.hx F.hb d_Formula_value_215 (lv_at hl 0 rfl) ?_
          obtain ⟨⟨g31a, g31b⟩, hT⟩ := q_guard hT
          refine r_last F hS (Formula_f2 hk0).2.2 (Formula_f2 hk0).1 (Formula_f2 hk0).2.1 (inr_w32 _) g31a g31b d_Formula_value_217 (fun H locs hS => ?_)
          obtain ⟨M32, eM32⟩ : ∃ q, q = (setL M (k0 + 3) (w32 (v2_ - 2)) q27) := ⟨_, rfl⟩
          replace hS : St b C n M32 s H locs := by rw [eM32]; exact hS
          replace hT := qlet_eq hT eM32
          refine lv_iinc (v := Int32.ofInt (w32 (v2_ + (-1)))) (lv' := [(2, vI (w32 (v2_ + (-1)))), (5, .long q27), (0, .ref (b + k0)), (1, .ref (b + r1)), (3, vI v3_), (4, vI v4_)]) F.hx F.hb d_Formula_value_218 hl (k := 3) rfl (q_of_add _ _) (Nat.le_of_ble_eq_true rfl) rfl (fun ls hl => ?_)
          refine lv_goto (tgt := 228) F.hx F.hb d_Formula_value_221 (by decide) ?_
          exact k_Formula_value_L228 l hlo k0 r1 N1 hk0 hr1 F hlk hr bk4 hbk4 M32 (w32 (v2_ + (-1))) (inr_w32 _) v3_ hv3_ _ _ _ hS (lv_sub hl [2, 3, 0, 4] rfl) hT
        · replace hT := (if_neg c30).symm.trans hT
          refine lv_ldc2 (v := (-9223372036854775808)) F.hx F.hb F.hown (F.hts mw_902) d_Formula_value_204 ?_
          cases hT
          exact r_lret F hlk hr hS d_Formula_value_207
set_option maxHeartbeats 4000000 in
set_option maxRecDepth 100000 in
theorem k_Formula_value_L234 (l : Launch) {p : Program} {e : Env} {s : State} {m : MethodId} {below : List Frame} {meth : Method} {c : Code} {b n : Nat} {C : CT} (hlo : 191 ≤ n) (k0 : Nat) (r1 : Nat) (N1 : Nat) (hk0 : isFormula k0) (hr1 : arrP 2 r1 N1 191) (F : Cx b p m c b_Formula_value 7 s ([.ref (b + k0), .ref (b + r1)] : List Value).toArray "WardFalls$Formula" C n 191) (hlk : meth.locks = false) (hr : meth.sig.returnType = some .long) {res : Mem × Int64} (M : Mem) (v1_ : Int) (hv1_ : InR v1_) (H : Heap) (locs : List Loc) (ls : Array Slot) (hS : St b C n M s H locs) (hl : lv_has ls 7 [(0, .ref (b + k0)), (2, vI v1_)]) (hT : t_Formula_value_L234 k0 r1 N1 M v1_ = some res) : W p l e (headSpec (wsM y_Formula_value b_Formula_value 7 (some .long)) (rmD 3)).room s m ([.ref (b + k0), .ref (b + r1)] : List Value).toArray below meth c H locs 0 0 (MQ below (QL b C n res.1 res.2) ([.ref (b + k0), .ref (b + r1)] : List Value).toArray s 0 0 (frb b)) (F0 m 234 ls []) := by
  unfold t_Formula_value_L234 at hT
  refine lv_iload_n F.hx F.hb d_Formula_value_234 rfl (lv_at hl 1 rfl) ?_
  refine r_iconst F.hx F.hb d_Formula_value_235 ?_
  refine r_icmp_ne (tgt := 248) F.hx F.hb hv1_ (inr_c rfl) d_Formula_value_236 (by decide) (fun c16 => ?_) (fun c16 => ?_)
  · replace hT := (if_neg c16).symm.trans hT
    refine lv_ldc2 (v := (-9223372036854775808)) F.hx F.hb F.hown (F.hts mw_902) d_Formula_value_248 ?_
    cases hT
    exact r_lret F hlk hr hS d_Formula_value_251
  · replace hT := (if_pos c16).symm.trans hT
    refine lv_aload_n F.hx F.hb d_Formula_value_239 rfl (lv_at hl 0 rfl) ?_
    refine r_get (v := .ref (b + (k0 + 3))) (N := 12) (T := T3) (j := 2) F hS (Formula_lt hk0) (Formula_sh hk0) (Formula_N hk0) rfl (Nat.le_of_ble_eq_true rfl) ing3 mw_49 (Formula_g2 hk0 _) d_Formula_value_240 ?_
    refine r_iconst F.hx F.hb d_Formula_value_243 ?_
    refine r_lald F hS (Formula_f2 hk0).2.2 (Formula_f2 hk0).1 (Formula_f2 hk0).2.1 (inr_c rfl) (by omega) (by omega) d_Formula_value_244 ?_
    refine lv_goto (tgt := 251) F.hx F.hb d_Formula_value_245 (by decide) ?_
    cases hT
    exact r_lret F hlk hr hS d_Formula_value_251
set_option maxHeartbeats 4000000 in
set_option maxRecDepth 100000 in
theorem k_Formula_value_L4 (l : Launch) {p : Program} {e : Env} {s : State} {m : MethodId} {below : List Frame} {meth : Method} {c : Code} {b n : Nat} {C : CT} (hlo : 191 ≤ n) (k0 : Nat) (r1 : Nat) (N1 : Nat) (hk0 : isFormula k0) (hr1 : arrP 2 r1 N1 191) (F : Cx b p m c b_Formula_value 7 s ([.ref (b + k0), .ref (b + r1)] : List Value).toArray "WardFalls$Formula" C n 191) (hlk : meth.locks = false) (hr : meth.sig.returnType = some .long) {res : Mem × Int64} : ∀ (fu : Nat) (M : Mem) (v2_ : Int) (hv2_ : InR v2_) (v3_ : Int) (hv3_ : InR v3_) (H : Heap) (locs : List Loc) (ls : Array Slot), St b C n M s H locs → lv_has ls 7 [(0, .ref (b + k0)), (1, .ref (b + r1)), (2, vI v2_), (3, vI v3_)] → t_Formula_value_L4 k0 r1 N1 fu M v2_ v3_ = some res → W p l e (headSpec (wsM y_Formula_value b_Formula_value 7 (some .long)) (rmD 3)).room s m ([.ref (b + k0), .ref (b + r1)] : List Value).toArray below meth c H locs 0 0 (MQ below (QL b C n res.1 res.2) ([.ref (b + k0), .ref (b + r1)] : List Value).toArray s 0 0 (frb b)) (F0 m 4 ls []) := by
  intro fu
  induction fu with
  | zero => intro M v2_ hv2_ v3_ hv3_ H locs ls hS hl hT; exact absurd hT (by simp [t_Formula_value_L4])
  | succ fu ih =>
    intro M v2_ hv2_ v3_ hv3_ H locs ls hS hl hT
    rw [t_Formula_value_L4] at hT
    refine lv_iload_n F.hx F.hb d_Formula_value_4 rfl (lv_at hl 3 rfl) ?_
    refine lv_aload_n F.hx F.hb d_Formula_value_5 rfl (lv_at hl 0 rfl) ?_
    refine r_get (v := vI (M.1 k0 3)) (N := 12) (T := T3) (j := 3) F hS (Formula_lt hk0) (Formula_sh hk0) (Formula_N hk0) rfl (Nat.le_of_ble_eq_true rfl) ing3 mw_50 (fv_int rfl) d_Formula_value_6 ?_
    have i1 := hS.rng k0 3
    refine r_icmp_ge (tgt := 234) F.hx F.hb hv3_ i1 d_Formula_value_9 (by decide) (fun c2 => ?_) (fun c2 => ?_)
    · replace hT := (if_pos c2).symm.trans hT
      exact k_Formula_value_L234 l hlo k0 r1 N1 hk0 hr1 F hlk hr M v2_ hv2_ _ _ _ hS (lv_sub hl [0, 2] rfl) hT
    · replace hT := (if_neg c2).symm.trans hT
      refine lv_aload_n F.hx F.hb d_Formula_value_12 rfl (lv_at hl 0 rfl) ?_
      refine r_get (v := vI (M.1 k0 4)) (N := 12) (T := T3) (j := 4) F hS (Formula_lt hk0) (Formula_sh hk0) (Formula_N hk0) rfl (Nat.le_of_ble_eq_true rfl) ing3 mw_51 (fv_int rfl) d_Formula_value_13 ?_
      have i3 := hS.rng k0 4
      refine r_if_eq (tgt := 234) F.hx F.hb i3 d_Formula_value_16 (by decide) (fun c4 => ?_) (fun c4 => ?_)
      · replace hT := (if_pos c4).symm.trans hT
        exact k_Formula_value_L234 l hlo k0 r1 N1 hk0 hr1 F hlk hr M v2_ hv2_ _ _ _ hS (lv_sub hl [0, 2] rfl) hT
      · replace hT := (if_neg c4).symm.trans hT
        refine lv_aload_n F.hx F.hb d_Formula_value_19 rfl (lv_at hl 0 rfl) ?_
        refine r_get (v := .ref (b + (k0 + 1))) (N := 12) (T := T3) (j := 0) F hS (Formula_lt hk0) (Formula_sh hk0) (Formula_N hk0) rfl (Nat.le_of_ble_eq_true rfl) ing3 mw_47 (Formula_g0 hk0 _) d_Formula_value_20 ?_
        refine lv_iload_n F.hx F.hb d_Formula_value_23 rfl (lv_at hl 3 rfl) ?_
        obtain ⟨q5, hq5⟩ : ∃ q, q = (t_WF_look M (k0 + 1) 64 v3_) := ⟨_, rfl⟩
        replace hT := qlet_eq hT hq5
        refine r_backI F hS (r_runSN (As := [.ref (b + (k0 + 1)), vI v3_]) F hS (c_WF_look l F.2.2.1 M (k0 + 1) 64 v3_ (Formula_f0 hk0) hv3_ _ hq5.symm) mw_519 mw_518 mw_1 gs_Formula_54 hd_WF_look ⟨Nat.le_of_ble_eq_true rfl, Nat.le_of_ble_eq_true rfl⟩ rfl hl.1 (Nat.le_of_ble_eq_true rfl) ⟨Nat.zero_le _, Nat.zero_le _⟩ rfl d_Formula_value_24) (fun H locs hS h6 => ?_)
        refine lv_istore (lv' := [(4, vI q5), (0, .ref (b + k0)), (1, .ref (b + r1)), (2, vI v2_), (3, vI v3_)]) F.hx F.hb d_Formula_value_27 hl (Nat.le_of_ble_eq_true rfl) rfl (fun ls hl => ?_)
        refine lv_iload F.hx F.hb d_Formula_value_29 (lv_at hl 0 rfl) ?_
        refine r_bipush F.hx F.hb d_Formula_value_31 rfl ?_
        refine r_icmp_eq (tgt := 44) F.hx F.hb h6 (inr_c rfl) d_Formula_value_33 (by decide) (fun c7 => ?_) (fun c7 => ?_)
        · replace hT := (if_pos c7).symm.trans hT
          exact k_Formula_value_L44 l hlo k0 r1 N1 hk0 hr1 F hlk hr (fun a0_ a1_ a2_ => t_Formula_value_L4 k0 r1 N1 fu a0_ a1_ a2_) ih M v2_ hv2_ v3_ hv3_ q5 h6 _ _ _ hS (lv_sub hl [1, 2, 3, 4, 0] rfl) hT
        · replace hT := (if_neg c7).symm.trans hT
          refine lv_iload F.hx F.hb d_Formula_value_36 (lv_at hl 0 rfl) ?_
          obtain ⟨q8, hq8⟩ : ∃ q, q = (t_Formula_isName M q5) := ⟨_, rfl⟩
          replace hT := qlet_eq hT hq8
          refine r_backZ F hS (r_runS (As := [vI q5]) F hS (c_Formula_isName l F.2.2.1 M q5 h6 _ hq8.symm) gs_Formula_76 hd_Formula_isName ⟨Nat.le_of_ble_eq_true rfl, Nat.le_of_ble_eq_true rfl⟩ rfl hl.1 (Nat.le_of_ble_eq_true rfl) ⟨Nat.zero_le _, Nat.zero_le _⟩ rfl d_Formula_value_38) (fun H locs hS h9 => ?_)
          refine r_if_eq (tgt := 97) F.hx F.hb (inr_z h9) d_Formula_value_41 (by decide) (fun c10 => ?_) (fun c10 => ?_)
          · replace hT := (if_pos c10).symm.trans hT
            refine lv_iload_n F.hx F.hb d_Formula_value_97 rfl (lv_at hl 3 rfl) ?_
            refine r_if_le (tgt := 149) F.hx F.hb hv2_ d_Formula_value_98 (by decide) (fun c11 => ?_) (fun c11 => ?_)
            · replace hT := (if_pos c11).symm.trans hT
              exact k_Formula_value_L149 l hlo k0 r1 N1 hk0 hr1 F hlk hr (fun a0_ a1_ a2_ => t_Formula_value_L4 k0 r1 N1 fu a0_ a1_ a2_) ih M v2_ hv2_ v3_ hv3_ q5 h6 _ _ _ hS (lv_sub hl [1, 2, 3, 4, 0] rfl) hT
            · replace hT := (if_neg c11).symm.trans hT
              refine lv_iload_n F.hx F.hb d_Formula_value_101 rfl (lv_at hl 3 rfl) ?_
              refine lv_aload_n F.hx F.hb d_Formula_value_102 rfl (lv_at hl 1 rfl) ?_
              refine r_get (v := .ref (b + (k0 + 3))) (N := 12) (T := T3) (j := 2) F hS (Formula_lt hk0) (Formula_sh hk0) (Formula_N hk0) rfl (Nat.le_of_ble_eq_true rfl) ing3 mw_49 (Formula_g2 hk0 _) d_Formula_value_103 ?_
              refine r_alen F hS (Formula_f2 hk0).2.2 (by rw [(Formula_f2 hk0).1]; decide) (Formula_f2 hk0).2.1 d_Formula_value_106 rfl ?_
              refine r_icmp_gt (tgt := 149) F.hx F.hb hv2_ (inr_c rfl) d_Formula_value_107 (by decide) (fun c12 => ?_) (fun c12 => ?_)
              · replace hT := (if_pos c12).symm.trans hT
                exact k_Formula_value_L149 l hlo k0 r1 N1 hk0 hr1 F hlk hr (fun a0_ a1_ a2_ => t_Formula_value_L4 k0 r1 N1 fu a0_ a1_ a2_) ih M v2_ hv2_ v3_ hv3_ q5 h6 _ _ _ hS (lv_sub hl [1, 2, 3, 4, 0] rfl) hT
              · replace hT := (if_neg c12).symm.trans hT
                refine lv_iload F.hx F.hb d_Formula_value_110 (lv_at hl 0 rfl) ?_
                refine r_bipush F.hx F.hb d_Formula_value_112 rfl ?_
                refine r_icmp_ne (tgt := 149) F.hx F.hb h6 (inr_c rfl) d_Formula_value_114 (by decide) (fun c13 => ?_) (fun c13 => ?_)
                · replace hT := (if_neg c13).symm.trans hT
                  exact k_Formula_value_L149 l hlo k0 r1 N1 hk0 hr1 F hlk hr (fun a0_ a1_ a2_ => t_Formula_value_L4 k0 r1 N1 fu a0_ a1_ a2_) ih M v2_ hv2_ v3_ hv3_ q5 h6 _ _ _ hS (lv_sub hl [1, 2, 3, 4, 0] rfl) hT
                · replace hT := (if_pos c13).symm.trans hT
                  refine lv_aload_n F.hx F.hb d_Formula_value_117 rfl (lv_at hl 1 rfl) ?_
                  refine r_get (v := .ref (b + (k0 + 3))) (N := 12) (T := T3) (j := 2) F hS (Formula_lt hk0) (Formula_sh hk0) (Formula_N hk0) rfl (Nat.le_of_ble_eq_true rfl) ing3 mw_49 (Formula_g2 hk0 _) d_Formula_value_118 ?_
                  refine lv_iload_n F.hx F.hb d_Formula_value_121 rfl (lv_at hl 3 rfl) ?_
                  refine r_iconst F.hx F.hb d_Formula_value_122 ?_
                  refine r_isub F.hx F.hb d_Formula_value_123 ?_
                  refine lv_aload_n F.hx F.hb d_Formula_value_124 rfl (lv_at hl 1 rfl) ?_
                  refine r_get (v := .ref (b + (k0 + 3))) (N := 12) (T := T3) (j := 2) F hS (Formula_lt hk0) (Formula_sh hk0) (Formula_N hk0) rfl (Nat.le_of_ble_eq_true rfl) ing3 mw_49 (Formula_g2 hk0 _) d_Formula_value_125 ?_
                  refine lv_iload_n F.hx F.hb d_Formula_value_128 rfl (lv_at hl 3 rfl) ?_
                  refine r_iconst F.hx F.hb d_Formula_value_129 ?_
                  refine r_isub F.hx F.hb d_Formula_value_130 ?_
                  obtain ⟨⟨g14a, g14b⟩, hT⟩ := q_guard hT
                  refine r_lald F hS (Formula_f2 hk0).2.2 (Formula_f2 hk0).1 (Formula_f2 hk0).2.1 (inr_w32 _) g14a g14b d_Formula_value_131 ?_
                  refine lv_lconst (v := 0) F.hx F.hb d_Formula_value_132 rfl ?_
                  refine W.lcmp F.hx F.hb d_Formula_value_133 ?_
                  refine r_lif_ne (tgt := 141) F.hx F.hb  d_Formula_value_134 (by decide) (fun c15 => ?_) (fun c15 => ?_)
                  · replace hT := (if_neg c15).symm.trans hT
                    refine r_iconst F.hx F.hb d_Formula_value_141 ?_
                    exact k_Formula_value_L142 l hlo k0 r1 N1 hk0 hr1 F hlk hr (fun a0_ a1_ a2_ => t_Formula_value_L4 k0 r1 N1 fu a0_ a1_ a2_) ih M v2_ hv2_ v3_ hv3_ (w32 (v2_ - 1)) (inr_w32 _) 0 (Or.inl rfl) _ _ _ hS (lv_sub hl [1, 2, 3, 4] rfl) hT
                  · replace hT := (if_pos c15).symm.trans hT
                    refine r_iconst F.hx F.hb d_Formula_value_137 ?_
                    refine lv_goto (tgt := 142) F.hx F.hb d_Formula_value_138 (by decide) ?_
                    exact k_Formula_value_L142 l hlo k0 r1 N1 hk0 hr1 F hlk hr (fun a0_ a1_ a2_ => t_Formula_value_L4 k0 r1 N1 fu a0_ a1_ a2_) ih M v2_ hv2_ v3_ hv3_ (w32 (v2_ - 1)) (inr_w32 _) 1 (Or.inr rfl) _ _ _ hS (lv_sub hl [1, 2, 3, 4] rfl) hT
          · replace hT := (if_neg c10).symm.trans hT
            exact k_Formula_value_L44 l hlo k0 r1 N1 hk0 hr1 F hlk hr (fun a0_ a1_ a2_ => t_Formula_value_L4 k0 r1 N1 fu a0_ a1_ a2_) ih M v2_ hv2_ v3_ hv3_ q5 h6 _ _ _ hS (lv_sub hl [1, 2, 3, 4, 0] rfl) hT
set_option maxHeartbeats 4000000 in
set_option maxRecDepth 100000 in
theorem c_Formula_value (l : Launch) {b n : Nat} {C : CT} (hlo : 191 ≤ n) (M : Mem) (k0 : Nat) (r1 : Nat) (N1 : Nat) (hk0 : isFormula k0) (hr1 : arrP 2 r1 N1 191) (res : Mem × Int64) (hT : t_Formula_value M k0 r1 N1 = some res) : CM l b C n 3 y_Formula_value b_Formula_value 7 (some .long) [.ref (b + k0), .ref (b + r1)] M (QL b C n res.1 res.2) := by
  refine CM.of (lo := 191) (ow := "WardFalls$Formula") (by decide) rfl (Nat.le_of_ble_eq_true rfl) hlo (fun p e s m below meth c F hlk hr hS ls hl => ?_)
  have hl : lv_has ls 7 [(0, .ref (b + k0)), (1, .ref (b + r1))] := hl
  unfold t_Formula_value at hT
  refine r_iconst F.hx F.hb d_Formula_value_0 ?_
  refine lv_istore_n (lv' := [(2, vI 0), (0, .ref (b + k0)), (1, .ref (b + r1))]) F.hx F.hb d_Formula_value_1 rfl hl (Nat.le_of_ble_eq_true rfl) rfl (fun ls hl => ?_)
  refine r_iconst F.hx F.hb d_Formula_value_2 ?_
  refine lv_istore_n (lv' := [(3, vI 0), (2, vI 0), (0, .ref (b + k0)), (1, .ref (b + r1))]) F.hx F.hb d_Formula_value_3 rfl hl (Nat.le_of_ble_eq_true rfl) rfl (fun ls hl => ?_)
  exact k_Formula_value_L4 l hlo k0 r1 N1 hk0 hr1 F hlk hr FU M 0 (inr_c rfl) 0 (inr_c rfl) _ _ _ hS (lv_sub hl [2, 3, 1, 0] rfl) hT
theorem d_Laws_joyTold_0 : decode b_Laws_joyTold 0 = .ok (.aload_n 0, 1) := dc_42 (by decide +kernel)
theorem d_Laws_joyTold_1 : decode b_Laws_joyTold 1 = .ok (.bipush 18, 2) := dc_16 (by decide +kernel)
theorem d_Laws_joyTold_3 : decode b_Laws_joyTold 3 = .ok (.aload_n 1, 1) := dc_43 (by decide +kernel)
theorem d_Laws_joyTold_4 : decode b_Laws_joyTold 4 = .ok (.getfield 76, 3) := dc_180 (by decide +kernel)
theorem d_Laws_joyTold_7 : decode b_Laws_joyTold 7 = .ok (.iload_n 2, 1) := dc_28 (by decide +kernel)
theorem d_Laws_joyTold_8 : decode b_Laws_joyTold 8 = .ok (.invokestatic 52, 3) := dc_184 (by decide +kernel)
theorem d_Laws_joyTold_11 : decode b_Laws_joyTold 11 = .ok (.i2l, 1) := dc_133 (by decide +kernel)
theorem d_Laws_joyTold_12 : decode b_Laws_joyTold 12 = .ok (.invokevirtual 79, 3) := dc_182 (by decide +kernel)
theorem d_Laws_joyTold_15 : decode b_Laws_joyTold 15 = .ok (.aload_n 0, 1) := dc_42 (by decide +kernel)
theorem d_Laws_joyTold_16 : decode b_Laws_joyTold 16 = .ok (.bipush 19, 2) := dc_16 (by decide +kernel)
theorem d_Laws_joyTold_18 : decode b_Laws_joyTold 18 = .ok (.aload_n 1, 1) := dc_43 (by decide +kernel)
theorem d_Laws_joyTold_19 : decode b_Laws_joyTold 19 = .ok (.getfield 83, 3) := dc_180 (by decide +kernel)
theorem d_Laws_joyTold_22 : decode b_Laws_joyTold 22 = .ok (.iload_n 2, 1) := dc_28 (by decide +kernel)
theorem d_Laws_joyTold_23 : decode b_Laws_joyTold 23 = .ok (.invokestatic 52, 3) := dc_184 (by decide +kernel)
theorem d_Laws_joyTold_26 : decode b_Laws_joyTold 26 = .ok (.i2l, 1) := dc_133 (by decide +kernel)
theorem d_Laws_joyTold_27 : decode b_Laws_joyTold 27 = .ok (.invokevirtual 79, 3) := dc_182 (by decide +kernel)
theorem d_Laws_joyTold_30 : decode b_Laws_joyTold 30 = .ok (.aload_n 0, 1) := dc_42 (by decide +kernel)
theorem d_Laws_joyTold_31 : decode b_Laws_joyTold 31 = .ok (.bipush 20, 2) := dc_16 (by decide +kernel)
theorem d_Laws_joyTold_33 : decode b_Laws_joyTold 33 = .ok (.aload_n 0, 1) := dc_42 (by decide +kernel)
theorem d_Laws_joyTold_34 : decode b_Laws_joyTold 34 = .ok (.getfield 15, 3) := dc_180 (by decide +kernel)
theorem d_Laws_joyTold_37 : decode b_Laws_joyTold 37 = .ok (.iload_n 2, 1) := dc_28 (by decide +kernel)
theorem d_Laws_joyTold_38 : decode b_Laws_joyTold 38 = .ok (.invokestatic 52, 3) := dc_184 (by decide +kernel)
theorem d_Laws_joyTold_41 : decode b_Laws_joyTold 41 = .ok (.i2l, 1) := dc_133 (by decide +kernel)
theorem d_Laws_joyTold_42 : decode b_Laws_joyTold 42 = .ok (.invokevirtual 79, 3) := dc_182 (by decide +kernel)
theorem d_Laws_joyTold_45 : decode b_Laws_joyTold 45 = .ok (.aload_n 0, 1) := dc_42 (by decide +kernel)
theorem d_Laws_joyTold_46 : decode b_Laws_joyTold 46 = .ok (.bipush 21, 2) := dc_16 (by decide +kernel)
theorem d_Laws_joyTold_48 : decode b_Laws_joyTold 48 = .ok (.aload_n 0, 1) := dc_42 (by decide +kernel)
theorem d_Laws_joyTold_49 : decode b_Laws_joyTold 49 = .ok (.getfield 19, 3) := dc_180 (by decide +kernel)
theorem d_Laws_joyTold_52 : decode b_Laws_joyTold 52 = .ok (.iload_n 2, 1) := dc_28 (by decide +kernel)
theorem d_Laws_joyTold_53 : decode b_Laws_joyTold 53 = .ok (.invokestatic 52, 3) := dc_184 (by decide +kernel)
theorem d_Laws_joyTold_56 : decode b_Laws_joyTold 56 = .ok (.i2l, 1) := dc_133 (by decide +kernel)
theorem d_Laws_joyTold_57 : decode b_Laws_joyTold 57 = .ok (.invokevirtual 79, 3) := dc_182 (by decide +kernel)
theorem d_Laws_joyTold_60 : decode b_Laws_joyTold 60 = .ok (.aload_n 0, 1) := dc_42 (by decide +kernel)
theorem d_Laws_joyTold_61 : decode b_Laws_joyTold 61 = .ok (.bipush 22, 2) := dc_16 (by decide +kernel)
theorem d_Laws_joyTold_63 : decode b_Laws_joyTold 63 = .ok (.aload_n 0, 1) := dc_42 (by decide +kernel)
theorem d_Laws_joyTold_64 : decode b_Laws_joyTold 64 = .ok (.getfield 22, 3) := dc_180 (by decide +kernel)
theorem d_Laws_joyTold_67 : decode b_Laws_joyTold 67 = .ok (.iload_n 2, 1) := dc_28 (by decide +kernel)
theorem d_Laws_joyTold_68 : decode b_Laws_joyTold 68 = .ok (.invokestatic 52, 3) := dc_184 (by decide +kernel)
theorem d_Laws_joyTold_71 : decode b_Laws_joyTold 71 = .ok (.i2l, 1) := dc_133 (by decide +kernel)
theorem d_Laws_joyTold_72 : decode b_Laws_joyTold 72 = .ok (.invokevirtual 79, 3) := dc_182 (by decide +kernel)
theorem d_Laws_joyTold_75 : decode b_Laws_joyTold 75 = .ok (.aload_n 0, 1) := dc_42 (by decide +kernel)
theorem d_Laws_joyTold_76 : decode b_Laws_joyTold 76 = .ok (.bipush 23, 2) := dc_16 (by decide +kernel)
theorem d_Laws_joyTold_78 : decode b_Laws_joyTold 78 = .ok (.lconst 0, 1) := dc_9 (by decide +kernel)
theorem d_Laws_joyTold_79 : decode b_Laws_joyTold 79 = .ok (.invokevirtual 79, 3) := dc_182 (by decide +kernel)
theorem d_Laws_joyTold_82 : decode b_Laws_joyTold 82 = .ok (.aload_n 0, 1) := dc_42 (by decide +kernel)
theorem d_Laws_joyTold_83 : decode b_Laws_joyTold 83 = .ok (.bipush 24, 2) := dc_16 (by decide +kernel)
theorem d_Laws_joyTold_85 : decode b_Laws_joyTold 85 = .ok (.iload_n 3, 1) := dc_29 (by decide +kernel)
theorem d_Laws_joyTold_86 : decode b_Laws_joyTold 86 = .ok (.i2l, 1) := dc_133 (by decide +kernel)
theorem d_Laws_joyTold_87 : decode b_Laws_joyTold 87 = .ok (.invokevirtual 79, 3) := dc_182 (by decide +kernel)
theorem d_Laws_joyTold_90 : decode b_Laws_joyTold 90 = .ok (.aload_n 1, 1) := dc_43 (by decide +kernel)
theorem d_Laws_joyTold_91 : decode b_Laws_joyTold 91 = .ok (.getfield 86, 3) := dc_180 (by decide +kernel)
theorem d_Laws_joyTold_94 : decode b_Laws_joyTold 94 = .ok (.aload_n 0, 1) := dc_42 (by decide +kernel)
theorem d_Laws_joyTold_95 : decode b_Laws_joyTold 95 = .ok (.getfield 9, 3) := dc_180 (by decide +kernel)
theorem d_Laws_joyTold_98 : decode b_Laws_joyTold 98 = .ok (.invokevirtual 90, 3) := dc_182 (by decide +kernel)
theorem d_Laws_joyTold_101 : decode b_Laws_joyTold 101 = .ok (.lreturn, 1) := dc_173 (by decide +kernel)
def t_Laws_joyTold (M : Mem) (k1 : Nat) (x2 : Int) (x3 : Int) : Option (Mem × Int64) := (qlet (t_WF_look M (k1 + 3) 4 x2) fun q1 => (qlet (t_Laws_name M 18 (q_i2l q1)) fun q3 => (qlet (t_WF_look q3 (k1 + 4) 4 x2) fun q5 => (qlet (t_Laws_name q3 19 (q_i2l q5)) fun q7 => (qlet (t_WF_look q7 179 4 x2) fun q9 => (qlet (t_Laws_name q7 20 (q_i2l q9)) fun q11 => (qlet (t_WF_look q11 180 4 x2) fun q13 => (qlet (t_Laws_name q11 21 (q_i2l q13)) fun q15 => (qlet (t_WF_look q15 181 4 x2) fun q17 => (qlet (t_Laws_name q15 22 (q_i2l q17)) fun q19 => (qlet (t_Laws_name q19 23 0) fun q21 => (qlet (t_Laws_name q21 24 (q_i2l x3)) fun q23 => (obind (t_Formula_value q23 (k1 + 15) 178 7) fun q25 => (some ((q25.1), (q25.2))))))))))))))))
set_option maxHeartbeats 4000000 in
set_option maxRecDepth 100000 in
theorem c_Laws_joyTold (l : Launch) {b n : Nat} {C : CT} (hlo : 191 ≤ n) (M : Mem) (k1 : Nat) (x2 : Int) (x3 : Int) (hk1 : isTown k1) (hx2 : InR x2) (hx3 : InR x3) (res : Mem × Int64) (hT : t_Laws_joyTold M k1 x2 x3 = some res) : CM l b C n 4 y_Laws_joyTold b_Laws_joyTold 4 (some .long) [.ref (b + 177), .ref (b + k1), vI x2, vI x3] M (QL b C n res.1 res.2) := by
  refine CM.of (lo := 191) (ow := "WardFalls$Laws") (by decide) rfl (Nat.le_of_ble_eq_true rfl) hlo (fun p e s m below meth c F hlk hr hS ls hl => ?_)
  have hl : lv_has ls 4 [(0, .ref (b + 177)), (1, .ref (b + k1)), (2, vI x2), (3, vI x3)] := hl
  unfold t_Laws_joyTold at hT
  refine lv_aload_n F.hx F.hb d_Laws_joyTold_0 rfl (lv_at hl 0 rfl) ?_
  refine r_bipush F.hx F.hb d_Laws_joyTold_1 rfl ?_
  refine lv_aload_n F.hx F.hb d_Laws_joyTold_3 rfl (lv_at hl 1 rfl) ?_
  refine r_get (v := .ref (b + (k1 + 3))) (N := 20) (T := T11) (j := 2) F hS (Town_lt hk1) (Town_sh hk1) (Town_N hk1) rfl (Nat.le_of_ble_eq_true rfl) ing11 mw_95 (Town_g2 hk1 _) d_Laws_joyTold_4 ?_
  refine lv_iload_n F.hx F.hb d_Laws_joyTold_7 rfl (lv_at hl 2 rfl) ?_
  obtain ⟨q1, hq1⟩ : ∃ q, q = (t_WF_look M (k1 + 3) 4 x2) := ⟨_, rfl⟩
  replace hT := qlet_eq hT hq1
  refine r_backI F hS (r_runSN (As := [.ref (b + (k1 + 3)), vI x2]) F hS (c_WF_look l F.2.2.1 M (k1 + 3) 4 x2 (Town_f2 hk1) hx2 _ hq1.symm) mw_519 mw_518 mw_1 gs_Laws_52 hd_WF_look ⟨Nat.le_of_ble_eq_true rfl, Nat.le_of_ble_eq_true rfl⟩ rfl hl.1 (Nat.le_of_ble_eq_true rfl) ⟨Nat.zero_le _, Nat.zero_le _⟩ rfl d_Laws_joyTold_8) (fun H locs hS h2 => ?_)
  refine r_i2l F.hx F.hb d_Laws_joyTold_11 ?_
  obtain ⟨q3, hq3⟩ : ∃ q, q = (t_Laws_name M 18 (q_i2l q1)) := ⟨_, rfl⟩
  replace hT := qlet_eq hT hq3
  refine r_backV F hS (r_runV (k := 177) (N := 9) (T := T4) (As := [vI 18, .long (q_i2l q1)]) F hS (show 177 < 191 by decide) (show shK 177 = 8 from rfl) rfl (c_Laws_name l F.2.2.1 M 18 (q_i2l q1) (inr_c rfl) _ hq3.symm) gs_Laws_79 hd_Laws_name ⟨Nat.le_of_ble_eq_true rfl, Nat.le_of_ble_eq_true rfl⟩ rfl hl.1 (Nat.le_of_ble_eq_true rfl) ⟨Nat.zero_le _, Nat.zero_le _⟩ rfl d_Laws_joyTold_12) (fun H locs hS => ?_)
  refine lv_aload_n F.hx F.hb d_Laws_joyTold_15 rfl (lv_at hl 0 rfl) ?_
  refine r_bipush F.hx F.hb d_Laws_joyTold_16 rfl ?_
  refine lv_aload_n F.hx F.hb d_Laws_joyTold_18 rfl (lv_at hl 1 rfl) ?_
  refine r_get (v := .ref (b + (k1 + 4))) (N := 20) (T := T11) (j := 3) F hS (Town_lt hk1) (Town_sh hk1) (Town_N hk1) rfl (Nat.le_of_ble_eq_true rfl) ing11 mw_99 (Town_g3 hk1 _) d_Laws_joyTold_19 ?_
  refine lv_iload_n F.hx F.hb d_Laws_joyTold_22 rfl (lv_at hl 2 rfl) ?_
  obtain ⟨q5, hq5⟩ : ∃ q, q = (t_WF_look q3 (k1 + 4) 4 x2) := ⟨_, rfl⟩
  replace hT := qlet_eq hT hq5
  refine r_backI F hS (r_runSN (As := [.ref (b + (k1 + 4)), vI x2]) F hS (c_WF_look l F.2.2.1 q3 (k1 + 4) 4 x2 (Town_f3 hk1) hx2 _ hq5.symm) mw_519 mw_518 mw_1 gs_Laws_52 hd_WF_look ⟨Nat.le_of_ble_eq_true rfl, Nat.le_of_ble_eq_true rfl⟩ rfl hl.1 (Nat.le_of_ble_eq_true rfl) ⟨Nat.zero_le _, Nat.zero_le _⟩ rfl d_Laws_joyTold_23) (fun H locs hS h6 => ?_)
  refine r_i2l F.hx F.hb d_Laws_joyTold_26 ?_
  obtain ⟨q7, hq7⟩ : ∃ q, q = (t_Laws_name q3 19 (q_i2l q5)) := ⟨_, rfl⟩
  replace hT := qlet_eq hT hq7
  refine r_backV F hS (r_runV (k := 177) (N := 9) (T := T4) (As := [vI 19, .long (q_i2l q5)]) F hS (show 177 < 191 by decide) (show shK 177 = 8 from rfl) rfl (c_Laws_name l F.2.2.1 q3 19 (q_i2l q5) (inr_c rfl) _ hq7.symm) gs_Laws_79 hd_Laws_name ⟨Nat.le_of_ble_eq_true rfl, Nat.le_of_ble_eq_true rfl⟩ rfl hl.1 (Nat.le_of_ble_eq_true rfl) ⟨Nat.zero_le _, Nat.zero_le _⟩ rfl d_Laws_joyTold_27) (fun H locs hS => ?_)
  refine lv_aload_n F.hx F.hb d_Laws_joyTold_30 rfl (lv_at hl 0 rfl) ?_
  refine r_bipush F.hx F.hb d_Laws_joyTold_31 rfl ?_
  refine lv_aload_n F.hx F.hb d_Laws_joyTold_33 rfl (lv_at hl 0 rfl) ?_
  refine r_get (v := .ref (b + 179)) (N := 9) (T := T4) (j := 1) F hS (show 177 < 191 by decide) (show shK 177 = 8 from rfl) (show shN 177 = 9 from rfl) rfl (Nat.le_of_ble_eq_true rfl) ing4 mw_439 (fv_sg rfl rfl rfl) d_Laws_joyTold_34 ?_
  refine lv_iload_n F.hx F.hb d_Laws_joyTold_37 rfl (lv_at hl 2 rfl) ?_
  obtain ⟨q9, hq9⟩ : ∃ q, q = (t_WF_look q7 179 4 x2) := ⟨_, rfl⟩
  replace hT := qlet_eq hT hq9
  refine r_backI F hS (r_runSN (As := [.ref (b + 179), vI x2]) F hS (c_WF_look l F.2.2.1 q7 179 4 x2 (show arrP 0 179 4 191 from ⟨rfl, rfl, by decide⟩) hx2 _ hq9.symm) mw_519 mw_518 mw_1 gs_Laws_52 hd_WF_look ⟨Nat.le_of_ble_eq_true rfl, Nat.le_of_ble_eq_true rfl⟩ rfl hl.1 (Nat.le_of_ble_eq_true rfl) ⟨Nat.zero_le _, Nat.zero_le _⟩ rfl d_Laws_joyTold_38) (fun H locs hS h10 => ?_)
  refine r_i2l F.hx F.hb d_Laws_joyTold_41 ?_
  obtain ⟨q11, hq11⟩ : ∃ q, q = (t_Laws_name q7 20 (q_i2l q9)) := ⟨_, rfl⟩
  replace hT := qlet_eq hT hq11
  refine r_backV F hS (r_runV (k := 177) (N := 9) (T := T4) (As := [vI 20, .long (q_i2l q9)]) F hS (show 177 < 191 by decide) (show shK 177 = 8 from rfl) rfl (c_Laws_name l F.2.2.1 q7 20 (q_i2l q9) (inr_c rfl) _ hq11.symm) gs_Laws_79 hd_Laws_name ⟨Nat.le_of_ble_eq_true rfl, Nat.le_of_ble_eq_true rfl⟩ rfl hl.1 (Nat.le_of_ble_eq_true rfl) ⟨Nat.zero_le _, Nat.zero_le _⟩ rfl d_Laws_joyTold_42) (fun H locs hS => ?_)
  refine lv_aload_n F.hx F.hb d_Laws_joyTold_45 rfl (lv_at hl 0 rfl) ?_
  refine r_bipush F.hx F.hb d_Laws_joyTold_46 rfl ?_
  refine lv_aload_n F.hx F.hb d_Laws_joyTold_48 rfl (lv_at hl 0 rfl) ?_
  refine r_get (v := .ref (b + 180)) (N := 9) (T := T4) (j := 2) F hS (show 177 < 191 by decide) (show shK 177 = 8 from rfl) (show shN 177 = 9 from rfl) rfl (Nat.le_of_ble_eq_true rfl) ing4 mw_440 (fv_sg rfl rfl rfl) d_Laws_joyTold_49 ?_
  refine lv_iload_n F.hx F.hb d_Laws_joyTold_52 rfl (lv_at hl 2 rfl) ?_
  obtain ⟨q13, hq13⟩ : ∃ q, q = (t_WF_look q11 180 4 x2) := ⟨_, rfl⟩
  replace hT := qlet_eq hT hq13
  refine r_backI F hS (r_runSN (As := [.ref (b + 180), vI x2]) F hS (c_WF_look l F.2.2.1 q11 180 4 x2 (show arrP 0 180 4 191 from ⟨rfl, rfl, by decide⟩) hx2 _ hq13.symm) mw_519 mw_518 mw_1 gs_Laws_52 hd_WF_look ⟨Nat.le_of_ble_eq_true rfl, Nat.le_of_ble_eq_true rfl⟩ rfl hl.1 (Nat.le_of_ble_eq_true rfl) ⟨Nat.zero_le _, Nat.zero_le _⟩ rfl d_Laws_joyTold_53) (fun H locs hS h14 => ?_)
  refine r_i2l F.hx F.hb d_Laws_joyTold_56 ?_
  obtain ⟨q15, hq15⟩ : ∃ q, q = (t_Laws_name q11 21 (q_i2l q13)) := ⟨_, rfl⟩
  replace hT := qlet_eq hT hq15
  refine r_backV F hS (r_runV (k := 177) (N := 9) (T := T4) (As := [vI 21, .long (q_i2l q13)]) F hS (show 177 < 191 by decide) (show shK 177 = 8 from rfl) rfl (c_Laws_name l F.2.2.1 q11 21 (q_i2l q13) (inr_c rfl) _ hq15.symm) gs_Laws_79 hd_Laws_name ⟨Nat.le_of_ble_eq_true rfl, Nat.le_of_ble_eq_true rfl⟩ rfl hl.1 (Nat.le_of_ble_eq_true rfl) ⟨Nat.zero_le _, Nat.zero_le _⟩ rfl d_Laws_joyTold_57) (fun H locs hS => ?_)
  refine lv_aload_n F.hx F.hb d_Laws_joyTold_60 rfl (lv_at hl 0 rfl) ?_
  refine r_bipush F.hx F.hb d_Laws_joyTold_61 rfl ?_
  refine lv_aload_n F.hx F.hb d_Laws_joyTold_63 rfl (lv_at hl 0 rfl) ?_
  refine r_get (v := .ref (b + 181)) (N := 9) (T := T4) (j := 3) F hS (show 177 < 191 by decide) (show shK 177 = 8 from rfl) (show shN 177 = 9 from rfl) rfl (Nat.le_of_ble_eq_true rfl) ing4 mw_441 (fv_sg rfl rfl rfl) d_Laws_joyTold_64 ?_
  refine lv_iload_n F.hx F.hb d_Laws_joyTold_67 rfl (lv_at hl 2 rfl) ?_
  obtain ⟨q17, hq17⟩ : ∃ q, q = (t_WF_look q15 181 4 x2) := ⟨_, rfl⟩
  replace hT := qlet_eq hT hq17
  refine r_backI F hS (r_runSN (As := [.ref (b + 181), vI x2]) F hS (c_WF_look l F.2.2.1 q15 181 4 x2 (show arrP 0 181 4 191 from ⟨rfl, rfl, by decide⟩) hx2 _ hq17.symm) mw_519 mw_518 mw_1 gs_Laws_52 hd_WF_look ⟨Nat.le_of_ble_eq_true rfl, Nat.le_of_ble_eq_true rfl⟩ rfl hl.1 (Nat.le_of_ble_eq_true rfl) ⟨Nat.zero_le _, Nat.zero_le _⟩ rfl d_Laws_joyTold_68) (fun H locs hS h18 => ?_)
  refine r_i2l F.hx F.hb d_Laws_joyTold_71 ?_
  obtain ⟨q19, hq19⟩ : ∃ q, q = (t_Laws_name q15 22 (q_i2l q17)) := ⟨_, rfl⟩
  replace hT := qlet_eq hT hq19
  refine r_backV F hS (r_runV (k := 177) (N := 9) (T := T4) (As := [vI 22, .long (q_i2l q17)]) F hS (show 177 < 191 by decide) (show shK 177 = 8 from rfl) rfl (c_Laws_name l F.2.2.1 q15 22 (q_i2l q17) (inr_c rfl) _ hq19.symm) gs_Laws_79 hd_Laws_name ⟨Nat.le_of_ble_eq_true rfl, Nat.le_of_ble_eq_true rfl⟩ rfl hl.1 (Nat.le_of_ble_eq_true rfl) ⟨Nat.zero_le _, Nat.zero_le _⟩ rfl d_Laws_joyTold_72) (fun H locs hS => ?_)
  refine lv_aload_n F.hx F.hb d_Laws_joyTold_75 rfl (lv_at hl 0 rfl) ?_
  refine r_bipush F.hx F.hb d_Laws_joyTold_76 rfl ?_
  refine lv_lconst (v := 0) F.hx F.hb d_Laws_joyTold_78 rfl ?_
  obtain ⟨q21, hq21⟩ : ∃ q, q = (t_Laws_name q19 23 0) := ⟨_, rfl⟩
  replace hT := qlet_eq hT hq21
  refine r_backV F hS (r_runV (k := 177) (N := 9) (T := T4) (As := [vI 23, .long 0]) F hS (show 177 < 191 by decide) (show shK 177 = 8 from rfl) rfl (c_Laws_name l F.2.2.1 q19 23 0 (inr_c rfl) _ hq21.symm) gs_Laws_79 hd_Laws_name ⟨Nat.le_of_ble_eq_true rfl, Nat.le_of_ble_eq_true rfl⟩ rfl hl.1 (Nat.le_of_ble_eq_true rfl) ⟨Nat.zero_le _, Nat.zero_le _⟩ rfl d_Laws_joyTold_79) (fun H locs hS => ?_)
  refine lv_aload_n F.hx F.hb d_Laws_joyTold_82 rfl (lv_at hl 0 rfl) ?_
  refine r_bipush F.hx F.hb d_Laws_joyTold_83 rfl ?_
  refine lv_iload_n F.hx F.hb d_Laws_joyTold_85 rfl (lv_at hl 3 rfl) ?_
  refine r_i2l F.hx F.hb d_Laws_joyTold_86 ?_
  obtain ⟨q23, hq23⟩ : ∃ q, q = (t_Laws_name q21 24 (q_i2l x3)) := ⟨_, rfl⟩
  replace hT := qlet_eq hT hq23
  refine r_backV F hS (r_runV (k := 177) (N := 9) (T := T4) (As := [vI 24, .long (q_i2l x3)]) F hS (show 177 < 191 by decide) (show shK 177 = 8 from rfl) rfl (c_Laws_name l F.2.2.1 q21 24 (q_i2l x3) (inr_c rfl) _ hq23.symm) gs_Laws_79 hd_Laws_name ⟨Nat.le_of_ble_eq_true rfl, Nat.le_of_ble_eq_true rfl⟩ rfl hl.1 (Nat.le_of_ble_eq_true rfl) ⟨Nat.zero_le _, Nat.zero_le _⟩ rfl d_Laws_joyTold_87) (fun H locs hS => ?_)
  refine lv_aload_n F.hx F.hb d_Laws_joyTold_90 rfl (lv_at hl 1 rfl) ?_
  refine r_get (v := .ref (b + (k1 + 15))) (N := 20) (T := T11) (j := 10) F hS (Town_lt hk1) (Town_sh hk1) (Town_N hk1) rfl (Nat.le_of_ble_eq_true rfl) ing11 mw_119 (Town_g10 hk1 _) d_Laws_joyTold_91 ?_
  refine lv_aload_n F.hx F.hb d_Laws_joyTold_94 rfl (lv_at hl 0 rfl) ?_
  refine r_get (v := .ref (b + 178)) (N := 9) (T := T4) (j := 0) F hS (show 177 < 191 by decide) (show shK 177 = 8 from rfl) (show shN 177 = 9 from rfl) rfl (Nat.le_of_ble_eq_true rfl) ing4 mw_438 (fv_sg rfl rfl rfl) d_Laws_joyTold_95 ?_
  obtain ⟨q25, hq25, hT⟩ := q_obind hT
  refine r_backL F hS (r_runV (k := (k1 + 15)) (N := 12) (T := T3) (As := [.ref (b + 178)]) F hS (Formula_lt (Town_f10 hk1)) (Formula_sh (Town_f10 hk1)) rfl (c_Formula_value l F.2.2.1 q23 (k1 + 15) 178 7 (Town_f10 hk1) (show arrP 2 178 7 191 from ⟨rfl, rfl, by decide⟩) _ hq25) gs_Laws_90 hd_Formula_value ⟨Nat.le_of_ble_eq_true rfl, Nat.le_of_ble_eq_true rfl⟩ rfl hl.1 (Nat.le_of_ble_eq_true rfl) ⟨Nat.zero_le _, Nat.zero_le _⟩ rfl d_Laws_joyTold_98) (fun H locs hS => ?_)
  cases hT
  exact r_lret F hlk hr hS d_Laws_joyTold_101
theorem d_Laws_joyOf_0 : decode b_Laws_joyOf 0 = .ok (.aload_n 0, 1) := dc_42 (by decide +kernel)
theorem d_Laws_joyOf_1 : decode b_Laws_joyOf 1 = .ok (.aload_n 1, 1) := dc_43 (by decide +kernel)
theorem d_Laws_joyOf_2 : decode b_Laws_joyOf 2 = .ok (.iload_n 2, 1) := dc_28 (by decide +kernel)
theorem d_Laws_joyOf_3 : decode b_Laws_joyOf 3 = .ok (.iload_n 3, 1) := dc_29 (by decide +kernel)
theorem d_Laws_joyOf_4 : decode b_Laws_joyOf 4 = .ok (.invokevirtual 96, 3) := dc_182 (by decide +kernel)
theorem d_Laws_joyOf_7 : decode b_Laws_joyOf 7 = .ok (.lstore 4, 2) := dc_55 (by decide +kernel)
theorem d_Laws_joyOf_9 : decode b_Laws_joyOf 9 = .ok (.lload 4, 2) := dc_22 (by decide +kernel)
theorem d_Laws_joyOf_11 : decode b_Laws_joyOf 11 = .ok (.ldc2_w 100, 3) := dc_20 (by decide +kernel)
theorem d_Laws_joyOf_14 : decode b_Laws_joyOf 14 = .ok (.lcmp, 1) := dc_148 (by decide +kernel)
theorem d_Laws_joyOf_15 : decode b_Laws_joyOf 15 = .ok (.ifCond .ne 14, 3) := dc_154 (by decide +kernel)
theorem d_Laws_joyOf_18 : decode b_Laws_joyOf 18 = .ok (.aload_n 0, 1) := dc_42 (by decide +kernel)
theorem d_Laws_joyOf_19 : decode b_Laws_joyOf 19 = .ok (.getfield 19, 3) := dc_180 (by decide +kernel)
theorem d_Laws_joyOf_22 : decode b_Laws_joyOf 22 = .ok (.iload_n 2, 1) := dc_28 (by decide +kernel)
theorem d_Laws_joyOf_23 : decode b_Laws_joyOf 23 = .ok (.invokestatic 52, 3) := dc_184 (by decide +kernel)
theorem d_Laws_joyOf_26 : decode b_Laws_joyOf 26 = .ok (.goto 16, 3) := dc_167 (by decide +kernel)
theorem d_Laws_joyOf_29 : decode b_Laws_joyOf 29 = .ok (.lconst 0, 1) := dc_9 (by decide +kernel)
theorem d_Laws_joyOf_30 : decode b_Laws_joyOf 30 = .ok (.ldc2_w 102, 3) := dc_20 (by decide +kernel)
theorem d_Laws_joyOf_33 : decode b_Laws_joyOf 33 = .ok (.lload 4, 2) := dc_22 (by decide +kernel)
theorem d_Laws_joyOf_35 : decode b_Laws_joyOf 35 = .ok (.invokestatic 104, 3) := dc_184 (by decide +kernel)
theorem d_Laws_joyOf_38 : decode b_Laws_joyOf 38 = .ok (.invokestatic 110, 3) := dc_184 (by decide +kernel)
theorem d_Laws_joyOf_41 : decode b_Laws_joyOf 41 = .ok (.l2i, 1) := dc_136 (by decide +kernel)
theorem d_Laws_joyOf_42 : decode b_Laws_joyOf 42 = .ok (.ireturn, 1) := dc_172 (by decide +kernel)
def t_Laws_joyOf (M : Mem) (k1 : Nat) (x2 : Int) (x3 : Int) : Option (Mem × Int) := (obind (t_Laws_joyTold M k1 x2 x3) fun q1 => (if (q1.2) = (-9223372036854775808) then (qlet (t_WF_look (q1.1) 180 4 x2) fun q4 => (some ((q1.1), q4))) else (some ((q1.1), (q_l2i (q_maxl 0 (q_minl 9999 (q1.2))))))))
set_option maxHeartbeats 4000000 in
set_option maxRecDepth 100000 in
theorem c_Laws_joyOf (l : Launch) {b n : Nat} {C : CT} (hlo : 191 ≤ n) (M : Mem) (k1 : Nat) (x2 : Int) (x3 : Int) (hk1 : isTown k1) (hx2 : InR x2) (hx3 : InR x3) (res : Mem × Int) (hT : t_Laws_joyOf M k1 x2 x3 = some res) : CM l b C n 5 y_Laws_joyOf b_Laws_joyOf 6 (some .int) [.ref (b + 177), .ref (b + k1), vI x2, vI x3] M (QI b C n res.1 res.2) := by
  refine CM.of (lo := 191) (ow := "WardFalls$Laws") (by decide) rfl (Nat.le_of_ble_eq_true rfl) hlo (fun p e s m below meth c F hlk hr hS ls hl => ?_)
  have hl : lv_has ls 6 [(0, .ref (b + 177)), (1, .ref (b + k1)), (2, vI x2), (3, vI x3)] := hl
  unfold t_Laws_joyOf at hT
  refine lv_aload_n F.hx F.hb d_Laws_joyOf_0 rfl (lv_at hl 0 rfl) ?_
  refine lv_aload_n F.hx F.hb d_Laws_joyOf_1 rfl (lv_at hl 1 rfl) ?_
  refine lv_iload_n F.hx F.hb d_Laws_joyOf_2 rfl (lv_at hl 2 rfl) ?_
  refine lv_iload_n F.hx F.hb d_Laws_joyOf_3 rfl (lv_at hl 3 rfl) ?_
  obtain ⟨q1, hq1, hT⟩ := q_obind hT
  refine r_backL F hS (r_runV (k := 177) (N := 9) (T := T4) (As := [.ref (b + k1), vI x2, vI x3]) F hS (show 177 < 191 by decide) (show shK 177 = 8 from rfl) rfl (c_Laws_joyTold l F.2.2.1 M k1 x2 x3 hk1 hx2 hx3 _ hq1) gs_Laws_96 hd_Laws_joyTold ⟨Nat.le_of_ble_eq_true rfl, Nat.le_of_ble_eq_true rfl⟩ rfl hl.1 (Nat.le_of_ble_eq_true rfl) ⟨Nat.zero_le _, Nat.zero_le _⟩ rfl d_Laws_joyOf_4) (fun H locs hS => ?_)
  refine lv_lstore (lv' := [(4, .long (q1.2)), (0, .ref (b + 177)), (1, .ref (b + k1)), (2, vI x2), (3, vI x3)]) F.hx F.hb d_Laws_joyOf_7 hl (Nat.le_of_ble_eq_true rfl) rfl (fun ls hl => ?_)
  refine lv_lload F.hx F.hb d_Laws_joyOf_9 (lv_at hl 0 rfl) ?_
  refine lv_ldc2 (v := (-9223372036854775808)) F.hx F.hb F.hown (F.hts mw_920) d_Laws_joyOf_11 ?_
  refine W.lcmp F.hx F.hb d_Laws_joyOf_14 ?_
  refine r_lif_ne (tgt := 29) F.hx F.hb  d_Laws_joyOf_15 (by decide) (fun c3 => ?_) (fun c3 => ?_)
  · replace hT := (if_neg c3).symm.trans hT
    refine lv_lconst (v := 0) F.hx F.hb d_Laws_joyOf_29 rfl ?_
    refine lv_ldc2 (v := 9999) F.hx F.hb F.hown (F.hts mw_921) d_Laws_joyOf_30 ?_
    refine lv_lload F.hx F.hb d_Laws_joyOf_33 (lv_at hl 0 rfl) ?_
    refine r_mminl F hl.1 mw_922 mw_923 mw_14 mw_924 ⟨Nat.le_of_ble_eq_true rfl, Nat.le_of_ble_eq_true rfl⟩ (Nat.le_of_ble_eq_true rfl) ⟨Nat.zero_le _, Nat.zero_le _⟩ d_Laws_joyOf_35 ?_
    refine r_mmaxl F hl.1 mw_925 mw_926 mw_14 mw_927 ⟨Nat.le_of_ble_eq_true rfl, Nat.le_of_ble_eq_true rfl⟩ (Nat.le_of_ble_eq_true rfl) ⟨Nat.zero_le _, Nat.zero_le _⟩ d_Laws_joyOf_38 ?_
    refine r_l2i F.hx F.hb d_Laws_joyOf_41 ?_
    cases hT
    exact r_iret F hlk hr rfl hS (q_inr_toInt _) d_Laws_joyOf_42
  · replace hT := (if_pos c3).symm.trans hT
    refine lv_aload_n F.hx F.hb d_Laws_joyOf_18 rfl (lv_at hl 1 rfl) ?_
    refine r_get (v := .ref (b + 180)) (N := 9) (T := T4) (j := 2) F hS (show 177 < 191 by decide) (show shK 177 = 8 from rfl) (show shN 177 = 9 from rfl) rfl (Nat.le_of_ble_eq_true rfl) ing4 mw_440 (fv_sg rfl rfl rfl) d_Laws_joyOf_19 ?_
    refine lv_iload_n F.hx F.hb d_Laws_joyOf_22 rfl (lv_at hl 3 rfl) ?_
    obtain ⟨q4, hq4⟩ : ∃ q, q = (t_WF_look (q1.1) 180 4 x2) := ⟨_, rfl⟩
    replace hT := qlet_eq hT hq4
    refine r_backI F hS (r_runSN (As := [.ref (b + 180), vI x2]) F hS (c_WF_look l F.2.2.1 (q1.1) 180 4 x2 (show arrP 0 180 4 191 from ⟨rfl, rfl, by decide⟩) hx2 _ hq4.symm) mw_519 mw_518 mw_1 gs_Laws_52 hd_WF_look ⟨Nat.le_of_ble_eq_true rfl, Nat.le_of_ble_eq_true rfl⟩ rfl hl.1 (Nat.le_of_ble_eq_true rfl) ⟨Nat.zero_le _, Nat.zero_le _⟩ rfl d_Laws_joyOf_23) (fun H locs hS h5 => ?_)
    refine lv_goto (tgt := 42) F.hx F.hb d_Laws_joyOf_26 (by decide) ?_
    cases hT
    exact r_iret F hlk hr rfl hS h5 d_Laws_joyOf_42
theorem d_WF_ward_0 : decode b_WF_ward 0 = .ok (.aload_n 0, 1) := dc_42 (by decide +kernel)
theorem d_WF_ward_1 : decode b_WF_ward 1 = .ok (.getfield 22, 3) := dc_180 (by decide +kernel)
theorem d_WF_ward_4 : decode b_WF_ward 4 = .ok (.iload_n 1, 1) := dc_27 (by decide +kernel)
theorem d_WF_ward_5 : decode b_WF_ward 5 = .ok (.invokevirtual 198, 3) := dc_182 (by decide +kernel)
theorem d_WF_ward_8 : decode b_WF_ward 8 = .ok (.ifCond .ne 5, 3) := dc_154 (by decide +kernel)
theorem d_WF_ward_11 : decode b_WF_ward 11 = .ok (.iconst (-1), 1) := dc_2 (by decide +kernel)
theorem d_WF_ward_12 : decode b_WF_ward 12 = .ok (.ireturn, 1) := dc_172 (by decide +kernel)
theorem d_WF_ward_13 : decode b_WF_ward 13 = .ok (.iload_n 2, 1) := dc_28 (by decide +kernel)
theorem d_WF_ward_14 : decode b_WF_ward 14 = .ok (.tableswitch 101 0 3 #[30, 42, 54, 66], 30) := by decide +kernel
theorem d_WF_ward_44 : decode b_WF_ward 44 = .ok (.aload_n 0, 1) := dc_42 (by decide +kernel)
theorem d_WF_ward_45 : decode b_WF_ward 45 = .ok (.getfield 46, 3) := dc_180 (by decide +kernel)
theorem d_WF_ward_48 : decode b_WF_ward 48 = .ok (.getfield 201, 3) := dc_180 (by decide +kernel)
theorem d_WF_ward_51 : decode b_WF_ward 51 = .ok (.iload_n 1, 1) := dc_27 (by decide +kernel)
theorem d_WF_ward_52 : decode b_WF_ward 52 = .ok (.invokestatic 204, 3) := dc_184 (by decide +kernel)
theorem d_WF_ward_55 : decode b_WF_ward 55 = .ok (.ireturn, 1) := dc_172 (by decide +kernel)
theorem d_WF_ward_56 : decode b_WF_ward 56 = .ok (.aload_n 0, 1) := dc_42 (by decide +kernel)
theorem d_WF_ward_57 : decode b_WF_ward 57 = .ok (.getfield 22, 3) := dc_180 (by decide +kernel)
theorem d_WF_ward_60 : decode b_WF_ward 60 = .ok (.getfield 208, 3) := dc_180 (by decide +kernel)
theorem d_WF_ward_63 : decode b_WF_ward 63 = .ok (.iload_n 1, 1) := dc_27 (by decide +kernel)
theorem d_WF_ward_64 : decode b_WF_ward 64 = .ok (.invokestatic 204, 3) := dc_184 (by decide +kernel)
theorem d_WF_ward_67 : decode b_WF_ward 67 = .ok (.ireturn, 1) := dc_172 (by decide +kernel)
theorem d_WF_ward_68 : decode b_WF_ward 68 = .ok (.aload_n 0, 1) := dc_42 (by decide +kernel)
theorem d_WF_ward_69 : decode b_WF_ward 69 = .ok (.getfield 22, 3) := dc_180 (by decide +kernel)
theorem d_WF_ward_72 : decode b_WF_ward 72 = .ok (.getfield 211, 3) := dc_180 (by decide +kernel)
theorem d_WF_ward_75 : decode b_WF_ward 75 = .ok (.iload_n 1, 1) := dc_27 (by decide +kernel)
theorem d_WF_ward_76 : decode b_WF_ward 76 = .ok (.invokestatic 204, 3) := dc_184 (by decide +kernel)
theorem d_WF_ward_79 : decode b_WF_ward 79 = .ok (.ireturn, 1) := dc_172 (by decide +kernel)
theorem d_WF_ward_80 : decode b_WF_ward 80 = .ok (.aload_n 0, 1) := dc_42 (by decide +kernel)
theorem d_WF_ward_81 : decode b_WF_ward 81 = .ok (.getfield 83, 3) := dc_180 (by decide +kernel)
theorem d_WF_ward_84 : decode b_WF_ward 84 = .ok (.aload_n 0, 1) := dc_42 (by decide +kernel)
theorem d_WF_ward_85 : decode b_WF_ward 85 = .ok (.getfield 22, 3) := dc_180 (by decide +kernel)
theorem d_WF_ward_88 : decode b_WF_ward 88 = .ok (.aload_n 0, 1) := dc_42 (by decide +kernel)
theorem d_WF_ward_89 : decode b_WF_ward 89 = .ok (.getfield 46, 3) := dc_180 (by decide +kernel)
theorem d_WF_ward_92 : decode b_WF_ward 92 = .ok (.invokevirtual 214, 3) := dc_182 (by decide +kernel)
theorem d_WF_ward_95 : decode b_WF_ward 95 = .ok (.aload_n 0, 1) := dc_42 (by decide +kernel)
theorem d_WF_ward_96 : decode b_WF_ward 96 = .ok (.getfield 83, 3) := dc_180 (by decide +kernel)
theorem d_WF_ward_99 : decode b_WF_ward 99 = .ok (.aload_n 0, 1) := dc_42 (by decide +kernel)
theorem d_WF_ward_100 : decode b_WF_ward 100 = .ok (.getfield 22, 3) := dc_180 (by decide +kernel)
theorem d_WF_ward_103 : decode b_WF_ward 103 = .ok (.iload_n 1, 1) := dc_27 (by decide +kernel)
theorem d_WF_ward_104 : decode b_WF_ward 104 = .ok (.aload_n 0, 1) := dc_42 (by decide +kernel)
theorem d_WF_ward_105 : decode b_WF_ward 105 = .ok (.getfield 59, 3) := dc_180 (by decide +kernel)
theorem d_WF_ward_108 : decode b_WF_ward 108 = .ok (.getfield 218, 3) := dc_180 (by decide +kernel)
theorem d_WF_ward_111 : decode b_WF_ward 111 = .ok (.invokevirtual 221, 3) := dc_182 (by decide +kernel)
theorem d_WF_ward_114 : decode b_WF_ward 114 = .ok (.ireturn, 1) := dc_172 (by decide +kernel)
theorem d_WF_ward_115 : decode b_WF_ward 115 = .ok (.iconst (-1), 1) := dc_2 (by decide +kernel)
theorem d_WF_ward_116 : decode b_WF_ward 116 = .ok (.ireturn, 1) := dc_172 (by decide +kernel)
def t_WF_ward (M : Mem) (x1 : Int) (x2 : Int) : Option (Mem × Int) := (qlet (t_Town_hasWard M ((M.1 0 4).toNat) x1) fun q2 => (if q2 = 0 then (some (M, (-1))) else (if x2 = 0 then (qlet (t_WF_look M 48 4 x1) fun q6 => (some (M, q6))) else (if x2 = 1 then (qlet (t_WF_look M (((M.1 0 4).toNat) + 3) 4 x1) fun q10 => (some (M, q10))) else (if x2 = 2 then (qlet (t_WF_look M (((M.1 0 4).toNat) + 4) 4 x1) fun q14 => (some (M, q14))) else (if x2 = 3 then (obind (t_Laws_measure M ((M.1 0 4).toNat) 47) fun q18 => (obind (t_Laws_joyOf q18 ((q18.1 0 4).toNat) x1 (q18.1 62 3)) fun q22 => (some ((q22.1), (q22.2))))) else (some (M, (-1)))))))))
set_option maxHeartbeats 4000000 in
set_option maxRecDepth 100000 in
theorem c_WF_ward (l : Launch) {b n : Nat} {C : CT} (hlo : 191 ≤ n) (M : Mem) (x1 : Int) (x2 : Int) (hx1 : InR x1) (hx2 : InR x2) (res : Mem × Int) (hT : t_WF_ward M x1 x2 = some res) : CM l b C n 6 y_WF_ward b_WF_ward 3 (some .int) [.ref (b + 0), vI x1, vI x2] M (QI b C n res.1 res.2) := by
  refine CM.of (lo := 191) (ow := "WardFalls") (by decide) rfl (Nat.le_of_ble_eq_true rfl) hlo (fun p e s m below meth c F hlk hr hS ls hl => ?_)
  have hl : lv_has ls 3 [(0, .ref (b + 0)), (1, vI x1), (2, vI x2)] := hl
  unfold t_WF_ward at hT
  refine lv_aload_n F.hx F.hb d_WF_ward_0 rfl (lv_at hl 0 rfl) ?_
  have h1 := St_town hS
  refine r_get (v := .ref (b + ((M.1 0 4).toNat))) (N := 19) (T := T0) (j := 4) F hS (show 0 < 191 by decide) (show shK 0 = 4 from rfl) (show shN 0 = 19 from rfl) rfl (Nat.le_of_ble_eq_true rfl) ing0 mw_554 (fv_town hS) d_WF_ward_1 ?_
  refine lv_iload_n F.hx F.hb d_WF_ward_4 rfl (lv_at hl 1 rfl) ?_
  obtain ⟨q2, hq2⟩ : ∃ q, q = (t_Town_hasWard M ((M.1 0 4).toNat) x1) := ⟨_, rfl⟩
  replace hT := qlet_eq hT hq2
  refine r_backZ F hS (r_runV (k := ((M.1 0 4).toNat)) (N := 20) (T := T11) (As := [vI x1]) F hS (Town_lt h1) (Town_sh h1) rfl (c_Town_hasWard l F.2.2.1 M ((M.1 0 4).toNat) x1 h1 hx1 _ hq2.symm) gs_WF_198 hd_Town_hasWard ⟨Nat.le_of_ble_eq_true rfl, Nat.le_of_ble_eq_true rfl⟩ rfl hl.1 (Nat.le_of_ble_eq_true rfl) ⟨Nat.zero_le _, Nat.zero_le _⟩ rfl d_WF_ward_5) (fun H locs hS h3 => ?_)
  refine r_if_ne (tgt := 13) F.hx F.hb (inr_z h3) d_WF_ward_8 (by decide) (fun c4 => ?_) (fun c4 => ?_)
  · replace hT := (if_neg c4).symm.trans hT
    refine lv_iload_n F.hx F.hb d_WF_ward_13 rfl (lv_at hl 2 rfl) ?_
    rcases q_ite hT with ⟨c5, hT⟩ | ⟨c5, hT⟩
    · refine r_tableIn (i := 0) (tgt := 44) F.hx F.hb hx2 c5 d_WF_ward_14 (by decide) (by decide) rfl (by decide) ?_
      refine lv_aload_n F.hx F.hb d_WF_ward_44 rfl (lv_at hl 0 rfl) ?_
      refine r_get (v := .ref (b + 47)) (N := 19) (T := T0) (j := 8) F hS (show 0 < 191 by decide) (show shK 0 = 4 from rfl) (show shN 0 = 19 from rfl) rfl (Nat.le_of_ble_eq_true rfl) ing0 mw_558 (fv_sg rfl rfl rfl) d_WF_ward_45 ?_
      refine r_get (v := .ref (b + 48)) (N := 7) (T := T9) (j := 0) F hS (show 47 < 191 by decide) (show shK 47 = 13 from rfl) (show shN 47 = 7 from rfl) rfl (Nat.le_of_ble_eq_true rfl) ing9 mw_276 (fv_sg rfl rfl rfl) d_WF_ward_48 ?_
      refine lv_iload_n F.hx F.hb d_WF_ward_51 rfl (lv_at hl 1 rfl) ?_
      obtain ⟨q6, hq6⟩ : ∃ q, q = (t_WF_look M 48 4 x1) := ⟨_, rfl⟩
      replace hT := qlet_eq hT hq6
      refine r_backI F hS (r_runS (As := [.ref (b + 48), vI x1]) F hS (c_WF_look l F.2.2.1 M 48 4 x1 (show arrP 0 48 4 191 from ⟨rfl, rfl, by decide⟩) hx1 _ hq6.symm) gs_WF_204 hd_WF_look ⟨Nat.le_of_ble_eq_true rfl, Nat.le_of_ble_eq_true rfl⟩ rfl hl.1 (Nat.le_of_ble_eq_true rfl) ⟨Nat.zero_le _, Nat.zero_le _⟩ rfl d_WF_ward_52) (fun H locs hS h7 => ?_)
      cases hT
      exact r_iret F hlk hr rfl hS h7 d_WF_ward_55
    ·
      rcases q_ite hT with ⟨c8, hT⟩ | ⟨c8, hT⟩
      · refine r_tableIn (i := 1) (tgt := 56) F.hx F.hb hx2 c8 d_WF_ward_14 (by decide) (by decide) rfl (by decide) ?_
        refine lv_aload_n F.hx F.hb d_WF_ward_56 rfl (lv_at hl 0 rfl) ?_
        have h9 := St_town hS
        refine r_get (v := .ref (b + ((M.1 0 4).toNat))) (N := 19) (T := T0) (j := 4) F hS (show 0 < 191 by decide) (show shK 0 = 4 from rfl) (show shN 0 = 19 from rfl) rfl (Nat.le_of_ble_eq_true rfl) ing0 mw_554 (fv_town hS) d_WF_ward_57 ?_
        refine r_get (v := .ref (b + (((M.1 0 4).toNat) + 3))) (N := 20) (T := T11) (j := 2) F hS (Town_lt h9) (Town_sh h9) (Town_N h9) rfl (Nat.le_of_ble_eq_true rfl) ing11 mw_97 (Town_g2 h9 _) d_WF_ward_60 ?_
        refine lv_iload_n F.hx F.hb d_WF_ward_63 rfl (lv_at hl 1 rfl) ?_
        obtain ⟨q10, hq10⟩ : ∃ q, q = (t_WF_look M (((M.1 0 4).toNat) + 3) 4 x1) := ⟨_, rfl⟩
        replace hT := qlet_eq hT hq10
        refine r_backI F hS (r_runS (As := [.ref (b + (((M.1 0 4).toNat) + 3)), vI x1]) F hS (c_WF_look l F.2.2.1 M (((M.1 0 4).toNat) + 3) 4 x1 (Town_f2 h9) hx1 _ hq10.symm) gs_WF_204 hd_WF_look ⟨Nat.le_of_ble_eq_true rfl, Nat.le_of_ble_eq_true rfl⟩ rfl hl.1 (Nat.le_of_ble_eq_true rfl) ⟨Nat.zero_le _, Nat.zero_le _⟩ rfl d_WF_ward_64) (fun H locs hS h11 => ?_)
        cases hT
        exact r_iret F hlk hr rfl hS h11 d_WF_ward_67
      ·
        rcases q_ite hT with ⟨c12, hT⟩ | ⟨c12, hT⟩
        · refine r_tableIn (i := 2) (tgt := 68) F.hx F.hb hx2 c12 d_WF_ward_14 (by decide) (by decide) rfl (by decide) ?_
          refine lv_aload_n F.hx F.hb d_WF_ward_68 rfl (lv_at hl 0 rfl) ?_
          have h13 := St_town hS
          refine r_get (v := .ref (b + ((M.1 0 4).toNat))) (N := 19) (T := T0) (j := 4) F hS (show 0 < 191 by decide) (show shK 0 = 4 from rfl) (show shN 0 = 19 from rfl) rfl (Nat.le_of_ble_eq_true rfl) ing0 mw_554 (fv_town hS) d_WF_ward_69 ?_
          refine r_get (v := .ref (b + (((M.1 0 4).toNat) + 4))) (N := 20) (T := T11) (j := 3) F hS (Town_lt h13) (Town_sh h13) (Town_N h13) rfl (Nat.le_of_ble_eq_true rfl) ing11 mw_100 (Town_g3 h13 _) d_WF_ward_72 ?_
          refine lv_iload_n F.hx F.hb d_WF_ward_75 rfl (lv_at hl 1 rfl) ?_
          obtain ⟨q14, hq14⟩ : ∃ q, q = (t_WF_look M (((M.1 0 4).toNat) + 4) 4 x1) := ⟨_, rfl⟩
          replace hT := qlet_eq hT hq14
          refine r_backI F hS (r_runS (As := [.ref (b + (((M.1 0 4).toNat) + 4)), vI x1]) F hS (c_WF_look l F.2.2.1 M (((M.1 0 4).toNat) + 4) 4 x1 (Town_f3 h13) hx1 _ hq14.symm) gs_WF_204 hd_WF_look ⟨Nat.le_of_ble_eq_true rfl, Nat.le_of_ble_eq_true rfl⟩ rfl hl.1 (Nat.le_of_ble_eq_true rfl) ⟨Nat.zero_le _, Nat.zero_le _⟩ rfl d_WF_ward_76) (fun H locs hS h15 => ?_)
          cases hT
          exact r_iret F hlk hr rfl hS h15 d_WF_ward_79
        ·
          rcases q_ite hT with ⟨c16, hT⟩ | ⟨c16, hT⟩
          · refine r_tableIn (i := 3) (tgt := 80) F.hx F.hb hx2 c16 d_WF_ward_14 (by decide) (by decide) rfl (by decide) ?_
            refine lv_aload_n F.hx F.hb d_WF_ward_80 rfl (lv_at hl 0 rfl) ?_
            refine r_get (v := .ref (b + 177)) (N := 19) (T := T0) (j := 16) F hS (show 0 < 191 by decide) (show shK 0 = 4 from rfl) (show shN 0 = 19 from rfl) rfl (Nat.le_of_ble_eq_true rfl) ing0 mw_566 (fv_sg rfl rfl rfl) d_WF_ward_81 ?_
            refine lv_aload_n F.hx F.hb d_WF_ward_84 rfl (lv_at hl 0 rfl) ?_
            have h17 := St_town hS
            refine r_get (v := .ref (b + ((M.1 0 4).toNat))) (N := 19) (T := T0) (j := 4) F hS (show 0 < 191 by decide) (show shK 0 = 4 from rfl) (show shN 0 = 19 from rfl) rfl (Nat.le_of_ble_eq_true rfl) ing0 mw_554 (fv_town hS) d_WF_ward_85 ?_
            refine lv_aload_n F.hx F.hb d_WF_ward_88 rfl (lv_at hl 0 rfl) ?_
            refine r_get (v := .ref (b + 47)) (N := 19) (T := T0) (j := 8) F hS (show 0 < 191 by decide) (show shK 0 = 4 from rfl) (show shN 0 = 19 from rfl) rfl (Nat.le_of_ble_eq_true rfl) ing0 mw_558 (fv_sg rfl rfl rfl) d_WF_ward_89 ?_
            obtain ⟨q18, hq18, hT⟩ := q_obind hT
            refine r_backV F hS (r_runV (k := 177) (N := 9) (T := T4) (As := [.ref (b + ((M.1 0 4).toNat)), .ref (b + 47)]) F hS (show 177 < 191 by decide) (show shK 177 = 8 from rfl) rfl (c_Laws_measure l F.2.2.1 M ((M.1 0 4).toNat) 47 h17 (by decide : isScene 47) _ hq18) gs_WF_214 hd_Laws_measure ⟨Nat.le_of_ble_eq_true rfl, Nat.le_of_ble_eq_true rfl⟩ rfl hl.1 (Nat.le_of_ble_eq_true rfl) ⟨Nat.zero_le _, Nat.zero_le _⟩ rfl d_WF_ward_92) (fun H locs hS => ?_)
            refine lv_aload_n F.hx F.hb d_WF_ward_95 rfl (lv_at hl 0 rfl) ?_
            refine r_get (v := .ref (b + 177)) (N := 19) (T := T0) (j := 16) F hS (show 0 < 191 by decide) (show shK 0 = 4 from rfl) (show shN 0 = 19 from rfl) rfl (Nat.le_of_ble_eq_true rfl) ing0 mw_566 (fv_sg rfl rfl rfl) d_WF_ward_96 ?_
            refine lv_aload_n F.hx F.hb d_WF_ward_99 rfl (lv_at hl 0 rfl) ?_
            have h20 := St_town hS
            refine r_get (v := .ref (b + ((q18.1 0 4).toNat))) (N := 19) (T := T0) (j := 4) F hS (show 0 < 191 by decide) (show shK 0 = 4 from rfl) (show shN 0 = 19 from rfl) rfl (Nat.le_of_ble_eq_true rfl) ing0 mw_554 (fv_town hS) d_WF_ward_100 ?_
            refine lv_iload_n F.hx F.hb d_WF_ward_103 rfl (lv_at hl 1 rfl) ?_
            refine lv_aload_n F.hx F.hb d_WF_ward_104 rfl (lv_at hl 0 rfl) ?_
            refine r_get (v := .ref (b + 62)) (N := 19) (T := T0) (j := 11) F hS (show 0 < 191 by decide) (show shK 0 = 4 from rfl) (show shN 0 = 19 from rfl) rfl (Nat.le_of_ble_eq_true rfl) ing0 mw_561 (fv_sg rfl rfl rfl) d_WF_ward_105 ?_
            refine r_get (v := vI (q18.1 62 3)) (N := 6) (T := T2) (j := 3) F hS (show 62 < 191 by decide) (show shK 62 = 6 from rfl) (show shN 62 = 6 from rfl) rfl (Nat.le_of_ble_eq_true rfl) ing2 mw_321 (fv_int rfl) d_WF_ward_108 ?_
            have i21 := hS.rng 62 3
            obtain ⟨q22, hq22, hT⟩ := q_obind hT
            refine r_backI F hS (r_runV (k := 177) (N := 9) (T := T4) (As := [.ref (b + ((q18.1 0 4).toNat)), vI x1, vI (q18.1 62 3)]) F hS (show 177 < 191 by decide) (show shK 177 = 8 from rfl) rfl (c_Laws_joyOf l F.2.2.1 q18 ((q18.1 0 4).toNat) x1 (q18.1 62 3) h20 hx1 i21 _ hq22) gs_WF_221 hd_Laws_joyOf ⟨Nat.le_of_ble_eq_true rfl, Nat.le_of_ble_eq_true rfl⟩ rfl hl.1 (Nat.le_of_ble_eq_true rfl) ⟨Nat.zero_le _, Nat.zero_le _⟩ rfl d_WF_ward_111) (fun H locs hS h23 => ?_)
            cases hT
            exact r_iret F hlk hr rfl hS h23 d_WF_ward_114
          ·
            refine r_tableOut (tgt := 115) F.hx F.hb hx2 (by omega) d_WF_ward_14 (by decide) ?_
            refine r_iconst F.hx F.hb d_WF_ward_115 ?_
            cases hT
            exact r_iret F hlk hr rfl hS (inr_c rfl) d_WF_ward_116
  · replace hT := (if_pos c4).symm.trans hT
    refine r_iconst F.hx F.hb d_WF_ward_11 ?_
    cases hT
    exact r_iret F hlk hr rfl hS (inr_c rfl) d_WF_ward_12
theorem d_Town_hasThing_0 : decode b_Town_hasThing 0 = .ok (.iload_n 1, 1) := dc_27 (by decide +kernel)
theorem d_Town_hasThing_1 : decode b_Town_hasThing 1 = .ok (.ifCond .lt 15, 3) := dc_155 (by decide +kernel)
theorem d_Town_hasThing_4 : decode b_Town_hasThing 4 = .ok (.iload_n 1, 1) := dc_27 (by decide +kernel)
theorem d_Town_hasThing_5 : decode b_Town_hasThing 5 = .ok (.aload_n 0, 1) := dc_42 (by decide +kernel)
theorem d_Town_hasThing_6 : decode b_Town_hasThing 6 = .ok (.getfield 59, 3) := dc_180 (by decide +kernel)
theorem d_Town_hasThing_9 : decode b_Town_hasThing 9 = .ok (.if_icmp .ge 7, 3) := dc_162 (by decide +kernel)
theorem d_Town_hasThing_12 : decode b_Town_hasThing 12 = .ok (.iconst 1, 1) := dc_4 (by decide +kernel)
theorem d_Town_hasThing_13 : decode b_Town_hasThing 13 = .ok (.goto 4, 3) := dc_167 (by decide +kernel)
theorem d_Town_hasThing_16 : decode b_Town_hasThing 16 = .ok (.iconst 0, 1) := dc_3 (by decide +kernel)
theorem d_Town_hasThing_17 : decode b_Town_hasThing 17 = .ok (.ireturn, 1) := dc_172 (by decide +kernel)
def t_Town_hasThing (M : Mem) (k0 : Nat) (x1 : Int) : Int := (if x1 < 0 then 0 else (if (M.1 k0 15) ≤ x1 then 0 else 1))
set_option maxHeartbeats 4000000 in
set_option maxRecDepth 100000 in
theorem c_Town_hasThing (l : Launch) {b n : Nat} {C : CT} (hlo : 191 ≤ n) (M : Mem) (k0 : Nat) (x1 : Int) (hk0 : isTown k0) (hx1 : InR x1) (res : Int) (hT : t_Town_hasThing M k0 x1 = res) : CM l b C n 0 y_Town_hasThing b_Town_hasThing 2 (some .boolean) [.ref (b + k0), vI x1] M (QZ b C n M res) := by
  refine CM.of (lo := 191) (ow := "WardFalls$Town") (by decide) rfl (Nat.le_of_ble_eq_true rfl) hlo (fun p e s m below meth c F hlk hr hS ls hl => ?_)
  have hl : lv_has ls 2 [(0, .ref (b + k0)), (1, vI x1)] := hl
  unfold t_Town_hasThing at hT
  refine lv_iload_n F.hx F.hb d_Town_hasThing_0 rfl (lv_at hl 1 rfl) ?_
  refine r_if_lt (tgt := 16) F.hx F.hb hx1 d_Town_hasThing_1 (by decide) (fun c1 => ?_) (fun c1 => ?_)
  · replace hT := (if_pos c1).symm.trans hT
    refine r_iconst F.hx F.hb d_Town_hasThing_16 ?_
    subst hT
    exact r_zret F hlk hr hS (Or.inl rfl) d_Town_hasThing_17
  · replace hT := (if_neg c1).symm.trans hT
    refine lv_iload_n F.hx F.hb d_Town_hasThing_4 rfl (lv_at hl 1 rfl) ?_
    refine lv_aload_n F.hx F.hb d_Town_hasThing_5 rfl (lv_at hl 0 rfl) ?_
    refine r_get (v := vI (M.1 k0 15)) (N := 20) (T := T11) (j := 15) F hS (Town_lt hk0) (Town_sh hk0) (Town_N hk0) rfl (Nat.le_of_ble_eq_true rfl) ing11 mw_140 (fv_int rfl) d_Town_hasThing_6 ?_
    have i2 := hS.rng k0 15
    refine r_icmp_ge (tgt := 16) F.hx F.hb hx1 i2 d_Town_hasThing_9 (by decide) (fun c3 => ?_) (fun c3 => ?_)
    · replace hT := (if_pos c3).symm.trans hT
      refine r_iconst F.hx F.hb d_Town_hasThing_16 ?_
      subst hT
      exact r_zret F hlk hr hS (Or.inl rfl) d_Town_hasThing_17
    · replace hT := (if_neg c3).symm.trans hT
      refine r_iconst F.hx F.hb d_Town_hasThing_12 ?_
      refine lv_goto (tgt := 17) F.hx F.hb d_Town_hasThing_13 (by decide) ?_
      subst hT
      exact r_zret F hlk hr hS (Or.inr rfl) d_Town_hasThing_17
theorem d_WF_thing_0 : decode b_WF_thing 0 = .ok (.aload_n 0, 1) := dc_42 (by decide +kernel)
theorem d_WF_thing_1 : decode b_WF_thing 1 = .ok (.getfield 22, 3) := dc_180 (by decide +kernel)
theorem d_WF_thing_4 : decode b_WF_thing 4 = .ok (.iload_n 1, 1) := dc_27 (by decide +kernel)
theorem d_WF_thing_5 : decode b_WF_thing 5 = .ok (.invokevirtual 225, 3) := dc_182 (by decide +kernel)
theorem d_WF_thing_8 : decode b_WF_thing 8 = .ok (.ifCond .ne 5, 3) := dc_154 (by decide +kernel)
theorem d_WF_thing_11 : decode b_WF_thing 11 = .ok (.iconst (-1), 1) := dc_2 (by decide +kernel)
theorem d_WF_thing_12 : decode b_WF_thing 12 = .ok (.ireturn, 1) := dc_172 (by decide +kernel)
theorem d_WF_thing_13 : decode b_WF_thing 13 = .ok (.iload_n 2, 1) := dc_28 (by decide +kernel)
theorem d_WF_thing_14 : decode b_WF_thing 14 = .ok (.tableswitch 78 0 3 #[30, 42, 54, 66], 30) := by decide +kernel
theorem d_WF_thing_44 : decode b_WF_thing 44 = .ok (.aload_n 0, 1) := dc_42 (by decide +kernel)
theorem d_WF_thing_45 : decode b_WF_thing 45 = .ok (.getfield 46, 3) := dc_180 (by decide +kernel)
theorem d_WF_thing_48 : decode b_WF_thing 48 = .ok (.getfield 228, 3) := dc_180 (by decide +kernel)
theorem d_WF_thing_51 : decode b_WF_thing 51 = .ok (.iload_n 1, 1) := dc_27 (by decide +kernel)
theorem d_WF_thing_52 : decode b_WF_thing 52 = .ok (.invokestatic 204, 3) := dc_184 (by decide +kernel)
theorem d_WF_thing_55 : decode b_WF_thing 55 = .ok (.ireturn, 1) := dc_172 (by decide +kernel)
theorem d_WF_thing_56 : decode b_WF_thing 56 = .ok (.aload_n 0, 1) := dc_42 (by decide +kernel)
theorem d_WF_thing_57 : decode b_WF_thing 57 = .ok (.getfield 22, 3) := dc_180 (by decide +kernel)
theorem d_WF_thing_60 : decode b_WF_thing 60 = .ok (.getfield 231, 3) := dc_180 (by decide +kernel)
theorem d_WF_thing_63 : decode b_WF_thing 63 = .ok (.iload_n 1, 1) := dc_27 (by decide +kernel)
theorem d_WF_thing_64 : decode b_WF_thing 64 = .ok (.invokestatic 204, 3) := dc_184 (by decide +kernel)
theorem d_WF_thing_67 : decode b_WF_thing 67 = .ok (.ireturn, 1) := dc_172 (by decide +kernel)
theorem d_WF_thing_68 : decode b_WF_thing 68 = .ok (.aload_n 0, 1) := dc_42 (by decide +kernel)
theorem d_WF_thing_69 : decode b_WF_thing 69 = .ok (.getfield 46, 3) := dc_180 (by decide +kernel)
theorem d_WF_thing_72 : decode b_WF_thing 72 = .ok (.getfield 234, 3) := dc_180 (by decide +kernel)
theorem d_WF_thing_75 : decode b_WF_thing 75 = .ok (.iload_n 1, 1) := dc_27 (by decide +kernel)
theorem d_WF_thing_76 : decode b_WF_thing 76 = .ok (.invokestatic 204, 3) := dc_184 (by decide +kernel)
theorem d_WF_thing_79 : decode b_WF_thing 79 = .ok (.ireturn, 1) := dc_172 (by decide +kernel)
theorem d_WF_thing_80 : decode b_WF_thing 80 = .ok (.aload_n 0, 1) := dc_42 (by decide +kernel)
theorem d_WF_thing_81 : decode b_WF_thing 81 = .ok (.getfield 46, 3) := dc_180 (by decide +kernel)
theorem d_WF_thing_84 : decode b_WF_thing 84 = .ok (.getfield 237, 3) := dc_180 (by decide +kernel)
theorem d_WF_thing_87 : decode b_WF_thing 87 = .ok (.iload_n 1, 1) := dc_27 (by decide +kernel)
theorem d_WF_thing_88 : decode b_WF_thing 88 = .ok (.invokestatic 204, 3) := dc_184 (by decide +kernel)
theorem d_WF_thing_91 : decode b_WF_thing 91 = .ok (.ireturn, 1) := dc_172 (by decide +kernel)
theorem d_WF_thing_92 : decode b_WF_thing 92 = .ok (.iconst (-1), 1) := dc_2 (by decide +kernel)
theorem d_WF_thing_93 : decode b_WF_thing 93 = .ok (.ireturn, 1) := dc_172 (by decide +kernel)
def t_WF_thing (M : Mem) (x1 : Int) (x2 : Int) : Int := (qlet (t_Town_hasThing M ((M.1 0 4).toNat) x1) fun q2 => (if q2 = 0 then (-1) else (if x2 = 0 then (qlet (t_WF_look M 49 8 x1) fun q6 => q6) else (if x2 = 1 then (qlet (t_WF_look M (((M.1 0 4).toNat) + 6) 8 x1) fun q10 => q10) else (if x2 = 2 then (qlet (t_WF_look M 50 8 x1) fun q13 => q13) else (if x2 = 3 then (qlet (t_WF_look M 51 8 x1) fun q16 => q16) else (-1)))))))
set_option maxHeartbeats 4000000 in
set_option maxRecDepth 100000 in
theorem c_WF_thing (l : Launch) {b n : Nat} {C : CT} (hlo : 191 ≤ n) (M : Mem) (x1 : Int) (x2 : Int) (hx1 : InR x1) (hx2 : InR x2) (res : Int) (hT : t_WF_thing M x1 x2 = res) : CM l b C n 1 y_WF_thing b_WF_thing 3 (some .int) [.ref (b + 0), vI x1, vI x2] M (QI b C n M res) := by
  refine CM.of (lo := 191) (ow := "WardFalls") (by decide) rfl (Nat.le_of_ble_eq_true rfl) hlo (fun p e s m below meth c F hlk hr hS ls hl => ?_)
  have hl : lv_has ls 3 [(0, .ref (b + 0)), (1, vI x1), (2, vI x2)] := hl
  unfold t_WF_thing at hT
  refine lv_aload_n F.hx F.hb d_WF_thing_0 rfl (lv_at hl 0 rfl) ?_
  have h1 := St_town hS
  refine r_get (v := .ref (b + ((M.1 0 4).toNat))) (N := 19) (T := T0) (j := 4) F hS (show 0 < 191 by decide) (show shK 0 = 4 from rfl) (show shN 0 = 19 from rfl) rfl (Nat.le_of_ble_eq_true rfl) ing0 mw_554 (fv_town hS) d_WF_thing_1 ?_
  refine lv_iload_n F.hx F.hb d_WF_thing_4 rfl (lv_at hl 1 rfl) ?_
  obtain ⟨q2, hq2⟩ : ∃ q, q = (t_Town_hasThing M ((M.1 0 4).toNat) x1) := ⟨_, rfl⟩
  replace hT := qlet_eq hT hq2
  refine r_backZ F hS (r_runV (k := ((M.1 0 4).toNat)) (N := 20) (T := T11) (As := [vI x1]) F hS (Town_lt h1) (Town_sh h1) rfl (c_Town_hasThing l F.2.2.1 M ((M.1 0 4).toNat) x1 h1 hx1 _ hq2.symm) gs_WF_225 hd_Town_hasThing ⟨Nat.le_of_ble_eq_true rfl, Nat.le_of_ble_eq_true rfl⟩ rfl hl.1 (Nat.le_of_ble_eq_true rfl) ⟨Nat.zero_le _, Nat.zero_le _⟩ rfl d_WF_thing_5) (fun H locs hS h3 => ?_)
  refine r_if_ne (tgt := 13) F.hx F.hb (inr_z h3) d_WF_thing_8 (by decide) (fun c4 => ?_) (fun c4 => ?_)
  · replace hT := (if_neg c4).symm.trans hT
    refine lv_iload_n F.hx F.hb d_WF_thing_13 rfl (lv_at hl 2 rfl) ?_
    rcases q_ite hT with ⟨c5, hT⟩ | ⟨c5, hT⟩
    · refine r_tableIn (i := 0) (tgt := 44) F.hx F.hb hx2 c5 d_WF_thing_14 (by decide) (by decide) rfl (by decide) ?_
      refine lv_aload_n F.hx F.hb d_WF_thing_44 rfl (lv_at hl 0 rfl) ?_
      refine r_get (v := .ref (b + 47)) (N := 19) (T := T0) (j := 8) F hS (show 0 < 191 by decide) (show shK 0 = 4 from rfl) (show shN 0 = 19 from rfl) rfl (Nat.le_of_ble_eq_true rfl) ing0 mw_558 (fv_sg rfl rfl rfl) d_WF_thing_45 ?_
      refine r_get (v := .ref (b + 49)) (N := 7) (T := T9) (j := 1) F hS (show 47 < 191 by decide) (show shK 47 = 13 from rfl) (show shN 47 = 7 from rfl) rfl (Nat.le_of_ble_eq_true rfl) ing9 mw_280 (fv_sg rfl rfl rfl) d_WF_thing_48 ?_
      refine lv_iload_n F.hx F.hb d_WF_thing_51 rfl (lv_at hl 1 rfl) ?_
      obtain ⟨q6, hq6⟩ : ∃ q, q = (t_WF_look M 49 8 x1) := ⟨_, rfl⟩
      replace hT := qlet_eq hT hq6
      refine r_backI F hS (r_runS (As := [.ref (b + 49), vI x1]) F hS (c_WF_look l F.2.2.1 M 49 8 x1 (show arrP 0 49 8 191 from ⟨rfl, rfl, by decide⟩) hx1 _ hq6.symm) gs_WF_204 hd_WF_look ⟨Nat.le_of_ble_eq_true rfl, Nat.le_of_ble_eq_true rfl⟩ rfl hl.1 (Nat.le_of_ble_eq_true rfl) ⟨Nat.zero_le _, Nat.zero_le _⟩ rfl d_WF_thing_52) (fun H locs hS h7 => ?_)
      subst hT
      exact r_iret F hlk hr rfl hS h7 d_WF_thing_55
    ·
      rcases q_ite hT with ⟨c8, hT⟩ | ⟨c8, hT⟩
      · refine r_tableIn (i := 1) (tgt := 56) F.hx F.hb hx2 c8 d_WF_thing_14 (by decide) (by decide) rfl (by decide) ?_
        refine lv_aload_n F.hx F.hb d_WF_thing_56 rfl (lv_at hl 0 rfl) ?_
        have h9 := St_town hS
        refine r_get (v := .ref (b + ((M.1 0 4).toNat))) (N := 19) (T := T0) (j := 4) F hS (show 0 < 191 by decide) (show shK 0 = 4 from rfl) (show shN 0 = 19 from rfl) rfl (Nat.le_of_ble_eq_true rfl) ing0 mw_554 (fv_town hS) d_WF_thing_57 ?_
        refine r_get (v := .ref (b + (((M.1 0 4).toNat) + 6))) (N := 20) (T := T11) (j := 5) F hS (Town_lt h9) (Town_sh h9) (Town_N h9) rfl (Nat.le_of_ble_eq_true rfl) ing11 mw_106 (Town_g5 h9 _) d_WF_thing_60 ?_
        refine lv_iload_n F.hx F.hb d_WF_thing_63 rfl (lv_at hl 1 rfl) ?_
        obtain ⟨q10, hq10⟩ : ∃ q, q = (t_WF_look M (((M.1 0 4).toNat) + 6) 8 x1) := ⟨_, rfl⟩
        replace hT := qlet_eq hT hq10
        refine r_backI F hS (r_runS (As := [.ref (b + (((M.1 0 4).toNat) + 6)), vI x1]) F hS (c_WF_look l F.2.2.1 M (((M.1 0 4).toNat) + 6) 8 x1 (Town_f5 h9) hx1 _ hq10.symm) gs_WF_204 hd_WF_look ⟨Nat.le_of_ble_eq_true rfl, Nat.le_of_ble_eq_true rfl⟩ rfl hl.1 (Nat.le_of_ble_eq_true rfl) ⟨Nat.zero_le _, Nat.zero_le _⟩ rfl d_WF_thing_64) (fun H locs hS h11 => ?_)
        subst hT
        exact r_iret F hlk hr rfl hS h11 d_WF_thing_67
      ·
        rcases q_ite hT with ⟨c12, hT⟩ | ⟨c12, hT⟩
        · refine r_tableIn (i := 2) (tgt := 68) F.hx F.hb hx2 c12 d_WF_thing_14 (by decide) (by decide) rfl (by decide) ?_
          refine lv_aload_n F.hx F.hb d_WF_thing_68 rfl (lv_at hl 0 rfl) ?_
          refine r_get (v := .ref (b + 47)) (N := 19) (T := T0) (j := 8) F hS (show 0 < 191 by decide) (show shK 0 = 4 from rfl) (show shN 0 = 19 from rfl) rfl (Nat.le_of_ble_eq_true rfl) ing0 mw_558 (fv_sg rfl rfl rfl) d_WF_thing_69 ?_
          refine r_get (v := .ref (b + 50)) (N := 7) (T := T9) (j := 2) F hS (show 47 < 191 by decide) (show shK 47 = 13 from rfl) (show shN 47 = 7 from rfl) rfl (Nat.le_of_ble_eq_true rfl) ing9 mw_282 (fv_sg rfl rfl rfl) d_WF_thing_72 ?_
          refine lv_iload_n F.hx F.hb d_WF_thing_75 rfl (lv_at hl 1 rfl) ?_
          obtain ⟨q13, hq13⟩ : ∃ q, q = (t_WF_look M 50 8 x1) := ⟨_, rfl⟩
          replace hT := qlet_eq hT hq13
          refine r_backI F hS (r_runS (As := [.ref (b + 50), vI x1]) F hS (c_WF_look l F.2.2.1 M 50 8 x1 (show arrP 0 50 8 191 from ⟨rfl, rfl, by decide⟩) hx1 _ hq13.symm) gs_WF_204 hd_WF_look ⟨Nat.le_of_ble_eq_true rfl, Nat.le_of_ble_eq_true rfl⟩ rfl hl.1 (Nat.le_of_ble_eq_true rfl) ⟨Nat.zero_le _, Nat.zero_le _⟩ rfl d_WF_thing_76) (fun H locs hS h14 => ?_)
          subst hT
          exact r_iret F hlk hr rfl hS h14 d_WF_thing_79
        ·
          rcases q_ite hT with ⟨c15, hT⟩ | ⟨c15, hT⟩
          · refine r_tableIn (i := 3) (tgt := 80) F.hx F.hb hx2 c15 d_WF_thing_14 (by decide) (by decide) rfl (by decide) ?_
            refine lv_aload_n F.hx F.hb d_WF_thing_80 rfl (lv_at hl 0 rfl) ?_
            refine r_get (v := .ref (b + 47)) (N := 19) (T := T0) (j := 8) F hS (show 0 < 191 by decide) (show shK 0 = 4 from rfl) (show shN 0 = 19 from rfl) rfl (Nat.le_of_ble_eq_true rfl) ing0 mw_558 (fv_sg rfl rfl rfl) d_WF_thing_81 ?_
            refine r_get (v := .ref (b + 51)) (N := 7) (T := T9) (j := 3) F hS (show 47 < 191 by decide) (show shK 47 = 13 from rfl) (show shN 47 = 7 from rfl) rfl (Nat.le_of_ble_eq_true rfl) ing9 mw_284 (fv_sg rfl rfl rfl) d_WF_thing_84 ?_
            refine lv_iload_n F.hx F.hb d_WF_thing_87 rfl (lv_at hl 1 rfl) ?_
            obtain ⟨q16, hq16⟩ : ∃ q, q = (t_WF_look M 51 8 x1) := ⟨_, rfl⟩
            replace hT := qlet_eq hT hq16
            refine r_backI F hS (r_runS (As := [.ref (b + 51), vI x1]) F hS (c_WF_look l F.2.2.1 M 51 8 x1 (show arrP 0 51 8 191 from ⟨rfl, rfl, by decide⟩) hx1 _ hq16.symm) gs_WF_204 hd_WF_look ⟨Nat.le_of_ble_eq_true rfl, Nat.le_of_ble_eq_true rfl⟩ rfl hl.1 (Nat.le_of_ble_eq_true rfl) ⟨Nat.zero_le _, Nat.zero_le _⟩ rfl d_WF_thing_88) (fun H locs hS h17 => ?_)
            subst hT
            exact r_iret F hlk hr rfl hS h17 d_WF_thing_91
          ·
            refine r_tableOut (tgt := 92) F.hx F.hb hx2 (by omega) d_WF_thing_14 (by decide) ?_
            refine r_iconst F.hx F.hb d_WF_thing_92 ?_
            subst hT
            exact r_iret F hlk hr rfl hS (inr_c rfl) d_WF_thing_93
  · replace hT := (if_pos c4).symm.trans hT
    refine r_iconst F.hx F.hb d_WF_thing_11 ?_
    subst hT
    exact r_iret F hlk hr rfl hS (inr_c rfl) d_WF_thing_12
