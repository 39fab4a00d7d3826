theorem wn_MO_callsJoy_0 : ∀ i, i < 95 → bA b_MO_callsJoy (0 + i) = wB [3, 62, 3, 54, 4, 3, 54, 5, 3, 54, 6, 21, 6, 42, 180, 0, 13, 16, 6, 46, 162, 0, 83, 42, 27, 42, 180, 0, 79, 16, 8, 27, 104, 21, 6, 96, 46, 182, 1, 158, 42, 180, 1, 91, 157, 0, 53, 42, 180, 0, 25, 42, 180, 1, 100, 46, 28, 4, 96, 159, 0, 6, 167, 0, 35, 132, 3, 1, 21, 4, 42, 180, 0, 38, 21, 6, 46, 96, 54, 4, 21, 5, 42, 180, 1, 85, 158, 0, 7, 4, 167, 0, 4, 3, 96] i := wB_of (by decide +kernel)
theorem d_MO_callsJoy_0 : decode b_MO_callsJoy 0 = .ok (.iconst 0, 1) := dc_3 (q0_win (r := 0) wn_MO_callsJoy_0 (by decide +kernel))
theorem d_MO_callsJoy_1 : decode b_MO_callsJoy 1 = .ok (.istore_n 3, 1) := dc_62 (q0_win (r := 1) wn_MO_callsJoy_0 (by decide +kernel))
theorem d_MO_callsJoy_2 : decode b_MO_callsJoy 2 = .ok (.iconst 0, 1) := dc_3 (q0_win (r := 2) wn_MO_callsJoy_0 (by decide +kernel))
theorem d_MO_callsJoy_3 : decode b_MO_callsJoy 3 = .ok (.istore 4, 2) := dc_54 (qU1_win (r := 3) wn_MO_callsJoy_0 (by decide +kernel))
theorem d_MO_callsJoy_5 : decode b_MO_callsJoy 5 = .ok (.iconst 0, 1) := dc_3 (q0_win (r := 5) wn_MO_callsJoy_0 (by decide +kernel))
theorem d_MO_callsJoy_6 : decode b_MO_callsJoy 6 = .ok (.istore 5, 2) := dc_54 (qU1_win (r := 6) wn_MO_callsJoy_0 (by decide +kernel))
theorem d_MO_callsJoy_8 : decode b_MO_callsJoy 8 = .ok (.iconst 0, 1) := dc_3 (q0_win (r := 8) wn_MO_callsJoy_0 (by decide +kernel))
theorem d_MO_callsJoy_9 : decode b_MO_callsJoy 9 = .ok (.istore 6, 2) := dc_54 (qU1_win (r := 9) wn_MO_callsJoy_0 (by decide +kernel))
theorem d_MO_callsJoy_11 : decode b_MO_callsJoy 11 = .ok (.iload 6, 2) := dc_21 (qU1_win (r := 11) wn_MO_callsJoy_0 (by decide +kernel))
theorem d_MO_callsJoy_13 : decode b_MO_callsJoy 13 = .ok (.aload_n 0, 1) := dc_42 (q0_win (r := 13) wn_MO_callsJoy_0 (by decide +kernel))
theorem d_MO_callsJoy_14 : decode b_MO_callsJoy 14 = .ok (.getfield 13, 3) := dc_180 (qU2_win (r := 14) wn_MO_callsJoy_0 (by decide +kernel))
theorem d_MO_callsJoy_17 : decode b_MO_callsJoy 17 = .ok (.bipush 6, 2) := dc_16 (qS1_win (r := 17) wn_MO_callsJoy_0 (by decide +kernel))
theorem d_MO_callsJoy_19 : decode b_MO_callsJoy 19 = .ok (.iaload, 1) := dc_46 (q0_win (r := 19) wn_MO_callsJoy_0 (by decide +kernel))
theorem d_MO_callsJoy_20 : decode b_MO_callsJoy 20 = .ok (.if_icmp .ge 83, 3) := dc_162 (qS2_win (r := 20) wn_MO_callsJoy_0 (by decide +kernel))
theorem d_MO_callsJoy_23 : decode b_MO_callsJoy 23 = .ok (.aload_n 0, 1) := dc_42 (q0_win (r := 23) wn_MO_callsJoy_0 (by decide +kernel))
theorem d_MO_callsJoy_24 : decode b_MO_callsJoy 24 = .ok (.iload_n 1, 1) := dc_27 (q0_win (r := 24) wn_MO_callsJoy_0 (by decide +kernel))
theorem d_MO_callsJoy_25 : decode b_MO_callsJoy 25 = .ok (.aload_n 0, 1) := dc_42 (q0_win (r := 25) wn_MO_callsJoy_0 (by decide +kernel))
theorem d_MO_callsJoy_26 : decode b_MO_callsJoy 26 = .ok (.getfield 79, 3) := dc_180 (qU2_win (r := 26) wn_MO_callsJoy_0 (by decide +kernel))
theorem d_MO_callsJoy_29 : decode b_MO_callsJoy 29 = .ok (.bipush 8, 2) := dc_16 (qS1_win (r := 29) wn_MO_callsJoy_0 (by decide +kernel))
theorem d_MO_callsJoy_31 : decode b_MO_callsJoy 31 = .ok (.iload_n 1, 1) := dc_27 (q0_win (r := 31) wn_MO_callsJoy_0 (by decide +kernel))
theorem d_MO_callsJoy_32 : decode b_MO_callsJoy 32 = .ok (.imul, 1) := dc_104 (q0_win (r := 32) wn_MO_callsJoy_0 (by decide +kernel))
theorem d_MO_callsJoy_33 : decode b_MO_callsJoy 33 = .ok (.iload 6, 2) := dc_21 (qU1_win (r := 33) wn_MO_callsJoy_0 (by decide +kernel))
theorem d_MO_callsJoy_35 : decode b_MO_callsJoy 35 = .ok (.iadd, 1) := dc_96 (q0_win (r := 35) wn_MO_callsJoy_0 (by decide +kernel))
theorem d_MO_callsJoy_36 : decode b_MO_callsJoy 36 = .ok (.iaload, 1) := dc_46 (q0_win (r := 36) wn_MO_callsJoy_0 (by decide +kernel))
theorem d_MO_callsJoy_37 : decode b_MO_callsJoy 37 = .ok (.invokevirtual 414, 3) := dc_182 (qU2_win (r := 37) wn_MO_callsJoy_0 (by decide +kernel))
theorem d_MO_callsJoy_40 : decode b_MO_callsJoy 40 = .ok (.aload_n 0, 1) := dc_42 (q0_win (r := 40) wn_MO_callsJoy_0 (by decide +kernel))
theorem d_MO_callsJoy_41 : decode b_MO_callsJoy 41 = .ok (.getfield 347, 3) := dc_180 (qU2_win (r := 41) wn_MO_callsJoy_0 (by decide +kernel))
theorem d_MO_callsJoy_44 : decode b_MO_callsJoy 44 = .ok (.ifCond .gt 53, 3) := dc_157 (qS2_win (r := 44) wn_MO_callsJoy_0 (by decide +kernel))
theorem d_MO_callsJoy_47 : decode b_MO_callsJoy 47 = .ok (.aload_n 0, 1) := dc_42 (q0_win (r := 47) wn_MO_callsJoy_0 (by decide +kernel))
theorem d_MO_callsJoy_48 : decode b_MO_callsJoy 48 = .ok (.getfield 25, 3) := dc_180 (qU2_win (r := 48) wn_MO_callsJoy_0 (by decide +kernel))
theorem d_MO_callsJoy_51 : decode b_MO_callsJoy 51 = .ok (.aload_n 0, 1) := dc_42 (q0_win (r := 51) wn_MO_callsJoy_0 (by decide +kernel))
theorem d_MO_callsJoy_52 : decode b_MO_callsJoy 52 = .ok (.getfield 356, 3) := dc_180 (qU2_win (r := 52) wn_MO_callsJoy_0 (by decide +kernel))
theorem d_MO_callsJoy_55 : decode b_MO_callsJoy 55 = .ok (.iaload, 1) := dc_46 (q0_win (r := 55) wn_MO_callsJoy_0 (by decide +kernel))
theorem d_MO_callsJoy_56 : decode b_MO_callsJoy 56 = .ok (.iload_n 2, 1) := dc_28 (q0_win (r := 56) wn_MO_callsJoy_0 (by decide +kernel))
theorem d_MO_callsJoy_57 : decode b_MO_callsJoy 57 = .ok (.iconst 1, 1) := dc_4 (q0_win (r := 57) wn_MO_callsJoy_0 (by decide +kernel))
theorem d_MO_callsJoy_58 : decode b_MO_callsJoy 58 = .ok (.iadd, 1) := dc_96 (q0_win (r := 58) wn_MO_callsJoy_0 (by decide +kernel))
theorem d_MO_callsJoy_59 : decode b_MO_callsJoy 59 = .ok (.if_icmp .eq 6, 3) := dc_159 (qS2_win (r := 59) wn_MO_callsJoy_0 (by decide +kernel))
theorem d_MO_callsJoy_62 : decode b_MO_callsJoy 62 = .ok (.goto 35, 3) := dc_167 (qS2_win (r := 62) wn_MO_callsJoy_0 (by decide +kernel))
theorem d_MO_callsJoy_65 : decode b_MO_callsJoy 65 = .ok (.iinc 3 1, 3) := dc_132 (qI_win (r := 65) wn_MO_callsJoy_0 (by decide +kernel))
theorem d_MO_callsJoy_68 : decode b_MO_callsJoy 68 = .ok (.iload 4, 2) := dc_21 (qU1_win (r := 68) wn_MO_callsJoy_0 (by decide +kernel))
theorem d_MO_callsJoy_70 : decode b_MO_callsJoy 70 = .ok (.aload_n 0, 1) := dc_42 (q0_win (r := 70) wn_MO_callsJoy_0 (by decide +kernel))
theorem d_MO_callsJoy_71 : decode b_MO_callsJoy 71 = .ok (.getfield 38, 3) := dc_180 (qU2_win (r := 71) wn_MO_callsJoy_0 (by decide +kernel))
theorem d_MO_callsJoy_74 : decode b_MO_callsJoy 74 = .ok (.iload 6, 2) := dc_21 (qU1_win (r := 74) wn_MO_callsJoy_0 (by decide +kernel))
theorem d_MO_callsJoy_76 : decode b_MO_callsJoy 76 = .ok (.iaload, 1) := dc_46 (q0_win (r := 76) wn_MO_callsJoy_0 (by decide +kernel))
theorem d_MO_callsJoy_77 : decode b_MO_callsJoy 77 = .ok (.iadd, 1) := dc_96 (q0_win (r := 77) wn_MO_callsJoy_0 (by decide +kernel))
theorem d_MO_callsJoy_78 : decode b_MO_callsJoy 78 = .ok (.istore 4, 2) := dc_54 (qU1_win (r := 78) wn_MO_callsJoy_0 (by decide +kernel))
theorem d_MO_callsJoy_80 : decode b_MO_callsJoy 80 = .ok (.iload 5, 2) := dc_21 (qU1_win (r := 80) wn_MO_callsJoy_0 (by decide +kernel))
theorem d_MO_callsJoy_82 : decode b_MO_callsJoy 82 = .ok (.aload_n 0, 1) := dc_42 (q0_win (r := 82) wn_MO_callsJoy_0 (by decide +kernel))
theorem d_MO_callsJoy_83 : decode b_MO_callsJoy 83 = .ok (.getfield 341, 3) := dc_180 (qU2_win (r := 83) wn_MO_callsJoy_0 (by decide +kernel))
theorem d_MO_callsJoy_86 : decode b_MO_callsJoy 86 = .ok (.ifCond .le 7, 3) := dc_158 (qS2_win (r := 86) wn_MO_callsJoy_0 (by decide +kernel))
theorem d_MO_callsJoy_89 : decode b_MO_callsJoy 89 = .ok (.iconst 1, 1) := dc_4 (q0_win (r := 89) wn_MO_callsJoy_0 (by decide +kernel))
theorem d_MO_callsJoy_90 : decode b_MO_callsJoy 90 = .ok (.goto 4, 3) := dc_167 (qS2_win (r := 90) wn_MO_callsJoy_0 (by decide +kernel))
theorem d_MO_callsJoy_93 : decode b_MO_callsJoy 93 = .ok (.iconst 0, 1) := dc_3 (q0_win (r := 93) wn_MO_callsJoy_0 (by decide +kernel))
theorem d_MO_callsJoy_94 : decode b_MO_callsJoy 94 = .ok (.iadd, 1) := dc_96 (q0_win (r := 94) wn_MO_callsJoy_0 (by decide +kernel))
theorem wn_MO_callsJoy_95 : ∀ i, i < 81 → bA b_MO_callsJoy (95 + i) = wB [54, 5, 132, 6, 1, 167, 255, 167, 42, 180, 0, 106, 3, 42, 180, 0, 22, 28, 46, 133, 80, 42, 180, 0, 106, 4, 42, 28, 182, 1, 116, 133, 80, 42, 180, 0, 106, 5, 29, 133, 80, 42, 180, 0, 106, 6, 21, 4, 133, 80, 42, 180, 0, 106, 7, 21, 5, 133, 80, 42, 180, 0, 106, 8, 9, 80, 42, 180, 0, 106, 16, 6, 42, 180, 0, 60, 27, 46, 133, 80, 177] i := wB_of (by decide +kernel)
theorem d_MO_callsJoy_95 : decode b_MO_callsJoy 95 = .ok (.istore 5, 2) := dc_54 (qU1_win (r := 0) wn_MO_callsJoy_95 (by decide +kernel))
theorem d_MO_callsJoy_97 : decode b_MO_callsJoy 97 = .ok (.iinc 6 1, 3) := dc_132 (qI_win (r := 2) wn_MO_callsJoy_95 (by decide +kernel))
theorem d_MO_callsJoy_100 : decode b_MO_callsJoy 100 = .ok (.goto (-89), 3) := dc_167 (qS2_win (r := 5) wn_MO_callsJoy_95 (by decide +kernel))
theorem d_MO_callsJoy_103 : decode b_MO_callsJoy 103 = .ok (.aload_n 0, 1) := dc_42 (q0_win (r := 8) wn_MO_callsJoy_95 (by decide +kernel))
theorem d_MO_callsJoy_104 : decode b_MO_callsJoy 104 = .ok (.getfield 106, 3) := dc_180 (qU2_win (r := 9) wn_MO_callsJoy_95 (by decide +kernel))
theorem d_MO_callsJoy_107 : decode b_MO_callsJoy 107 = .ok (.iconst 0, 1) := dc_3 (q0_win (r := 12) wn_MO_callsJoy_95 (by decide +kernel))
theorem d_MO_callsJoy_108 : decode b_MO_callsJoy 108 = .ok (.aload_n 0, 1) := dc_42 (q0_win (r := 13) wn_MO_callsJoy_95 (by decide +kernel))
theorem d_MO_callsJoy_109 : decode b_MO_callsJoy 109 = .ok (.getfield 22, 3) := dc_180 (qU2_win (r := 14) wn_MO_callsJoy_95 (by decide +kernel))
theorem d_MO_callsJoy_112 : decode b_MO_callsJoy 112 = .ok (.iload_n 2, 1) := dc_28 (q0_win (r := 17) wn_MO_callsJoy_95 (by decide +kernel))
theorem d_MO_callsJoy_113 : decode b_MO_callsJoy 113 = .ok (.iaload, 1) := dc_46 (q0_win (r := 18) wn_MO_callsJoy_95 (by decide +kernel))
theorem d_MO_callsJoy_114 : decode b_MO_callsJoy 114 = .ok (.i2l, 1) := dc_133 (q0_win (r := 19) wn_MO_callsJoy_95 (by decide +kernel))
theorem d_MO_callsJoy_115 : decode b_MO_callsJoy 115 = .ok (.lastore, 1) := dc_80 (q0_win (r := 20) wn_MO_callsJoy_95 (by decide +kernel))
theorem d_MO_callsJoy_116 : decode b_MO_callsJoy 116 = .ok (.aload_n 0, 1) := dc_42 (q0_win (r := 21) wn_MO_callsJoy_95 (by decide +kernel))
theorem d_MO_callsJoy_117 : decode b_MO_callsJoy 117 = .ok (.getfield 106, 3) := dc_180 (qU2_win (r := 22) wn_MO_callsJoy_95 (by decide +kernel))
theorem d_MO_callsJoy_120 : decode b_MO_callsJoy 120 = .ok (.iconst 1, 1) := dc_4 (q0_win (r := 25) wn_MO_callsJoy_95 (by decide +kernel))
theorem d_MO_callsJoy_121 : decode b_MO_callsJoy 121 = .ok (.aload_n 0, 1) := dc_42 (q0_win (r := 26) wn_MO_callsJoy_95 (by decide +kernel))
theorem d_MO_callsJoy_122 : decode b_MO_callsJoy 122 = .ok (.iload_n 2, 1) := dc_28 (q0_win (r := 27) wn_MO_callsJoy_95 (by decide +kernel))
theorem d_MO_callsJoy_123 : decode b_MO_callsJoy 123 = .ok (.invokevirtual 372, 3) := dc_182 (qU2_win (r := 28) wn_MO_callsJoy_95 (by decide +kernel))
theorem d_MO_callsJoy_126 : decode b_MO_callsJoy 126 = .ok (.i2l, 1) := dc_133 (q0_win (r := 31) wn_MO_callsJoy_95 (by decide +kernel))
theorem d_MO_callsJoy_127 : decode b_MO_callsJoy 127 = .ok (.lastore, 1) := dc_80 (q0_win (r := 32) wn_MO_callsJoy_95 (by decide +kernel))
theorem d_MO_callsJoy_128 : decode b_MO_callsJoy 128 = .ok (.aload_n 0, 1) := dc_42 (q0_win (r := 33) wn_MO_callsJoy_95 (by decide +kernel))
theorem d_MO_callsJoy_129 : decode b_MO_callsJoy 129 = .ok (.getfield 106, 3) := dc_180 (qU2_win (r := 34) wn_MO_callsJoy_95 (by decide +kernel))
theorem d_MO_callsJoy_132 : decode b_MO_callsJoy 132 = .ok (.iconst 2, 1) := dc_5 (q0_win (r := 37) wn_MO_callsJoy_95 (by decide +kernel))
theorem d_MO_callsJoy_133 : decode b_MO_callsJoy 133 = .ok (.iload_n 3, 1) := dc_29 (q0_win (r := 38) wn_MO_callsJoy_95 (by decide +kernel))
theorem d_MO_callsJoy_134 : decode b_MO_callsJoy 134 = .ok (.i2l, 1) := dc_133 (q0_win (r := 39) wn_MO_callsJoy_95 (by decide +kernel))
theorem d_MO_callsJoy_135 : decode b_MO_callsJoy 135 = .ok (.lastore, 1) := dc_80 (q0_win (r := 40) wn_MO_callsJoy_95 (by decide +kernel))
theorem d_MO_callsJoy_136 : decode b_MO_callsJoy 136 = .ok (.aload_n 0, 1) := dc_42 (q0_win (r := 41) wn_MO_callsJoy_95 (by decide +kernel))
theorem d_MO_callsJoy_137 : decode b_MO_callsJoy 137 = .ok (.getfield 106, 3) := dc_180 (qU2_win (r := 42) wn_MO_callsJoy_95 (by decide +kernel))
theorem d_MO_callsJoy_140 : decode b_MO_callsJoy 140 = .ok (.iconst 3, 1) := dc_6 (q0_win (r := 45) wn_MO_callsJoy_95 (by decide +kernel))
theorem d_MO_callsJoy_141 : decode b_MO_callsJoy 141 = .ok (.iload 4, 2) := dc_21 (qU1_win (r := 46) wn_MO_callsJoy_95 (by decide +kernel))
theorem d_MO_callsJoy_143 : decode b_MO_callsJoy 143 = .ok (.i2l, 1) := dc_133 (q0_win (r := 48) wn_MO_callsJoy_95 (by decide +kernel))
theorem d_MO_callsJoy_144 : decode b_MO_callsJoy 144 = .ok (.lastore, 1) := dc_80 (q0_win (r := 49) wn_MO_callsJoy_95 (by decide +kernel))
theorem d_MO_callsJoy_145 : decode b_MO_callsJoy 145 = .ok (.aload_n 0, 1) := dc_42 (q0_win (r := 50) wn_MO_callsJoy_95 (by decide +kernel))
theorem d_MO_callsJoy_146 : decode b_MO_callsJoy 146 = .ok (.getfield 106, 3) := dc_180 (qU2_win (r := 51) wn_MO_callsJoy_95 (by decide +kernel))
theorem d_MO_callsJoy_149 : decode b_MO_callsJoy 149 = .ok (.iconst 4, 1) := dc_7 (q0_win (r := 54) wn_MO_callsJoy_95 (by decide +kernel))
theorem d_MO_callsJoy_150 : decode b_MO_callsJoy 150 = .ok (.iload 5, 2) := dc_21 (qU1_win (r := 55) wn_MO_callsJoy_95 (by decide +kernel))
theorem d_MO_callsJoy_152 : decode b_MO_callsJoy 152 = .ok (.i2l, 1) := dc_133 (q0_win (r := 57) wn_MO_callsJoy_95 (by decide +kernel))
theorem d_MO_callsJoy_153 : decode b_MO_callsJoy 153 = .ok (.lastore, 1) := dc_80 (q0_win (r := 58) wn_MO_callsJoy_95 (by decide +kernel))
theorem d_MO_callsJoy_154 : decode b_MO_callsJoy 154 = .ok (.aload_n 0, 1) := dc_42 (q0_win (r := 59) wn_MO_callsJoy_95 (by decide +kernel))
theorem d_MO_callsJoy_155 : decode b_MO_callsJoy 155 = .ok (.getfield 106, 3) := dc_180 (qU2_win (r := 60) wn_MO_callsJoy_95 (by decide +kernel))
theorem d_MO_callsJoy_158 : decode b_MO_callsJoy 158 = .ok (.iconst 5, 1) := dc_8 (q0_win (r := 63) wn_MO_callsJoy_95 (by decide +kernel))
theorem d_MO_callsJoy_159 : decode b_MO_callsJoy 159 = .ok (.lconst 0, 1) := dc_9 (q0_win (r := 64) wn_MO_callsJoy_95 (by decide +kernel))
theorem d_MO_callsJoy_160 : decode b_MO_callsJoy 160 = .ok (.lastore, 1) := dc_80 (q0_win (r := 65) wn_MO_callsJoy_95 (by decide +kernel))
theorem d_MO_callsJoy_161 : decode b_MO_callsJoy 161 = .ok (.aload_n 0, 1) := dc_42 (q0_win (r := 66) wn_MO_callsJoy_95 (by decide +kernel))
theorem d_MO_callsJoy_162 : decode b_MO_callsJoy 162 = .ok (.getfield 106, 3) := dc_180 (qU2_win (r := 67) wn_MO_callsJoy_95 (by decide +kernel))
theorem d_MO_callsJoy_165 : decode b_MO_callsJoy 165 = .ok (.bipush 6, 2) := dc_16 (qS1_win (r := 70) wn_MO_callsJoy_95 (by decide +kernel))
theorem d_MO_callsJoy_167 : decode b_MO_callsJoy 167 = .ok (.aload_n 0, 1) := dc_42 (q0_win (r := 72) wn_MO_callsJoy_95 (by decide +kernel))
theorem d_MO_callsJoy_168 : decode b_MO_callsJoy 168 = .ok (.getfield 60, 3) := dc_180 (qU2_win (r := 73) wn_MO_callsJoy_95 (by decide +kernel))
theorem d_MO_callsJoy_171 : decode b_MO_callsJoy 171 = .ok (.iload_n 1, 1) := dc_27 (q0_win (r := 76) wn_MO_callsJoy_95 (by decide +kernel))
theorem d_MO_callsJoy_172 : decode b_MO_callsJoy 172 = .ok (.iaload, 1) := dc_46 (q0_win (r := 77) wn_MO_callsJoy_95 (by decide +kernel))
theorem d_MO_callsJoy_173 : decode b_MO_callsJoy 173 = .ok (.i2l, 1) := dc_133 (q0_win (r := 78) wn_MO_callsJoy_95 (by decide +kernel))
theorem d_MO_callsJoy_174 : decode b_MO_callsJoy 174 = .ok (.lastore, 1) := dc_80 (q0_win (r := 79) wn_MO_callsJoy_95 (by decide +kernel))
theorem d_MO_callsJoy_175 : decode b_MO_callsJoy 175 = .ok (.return_, 1) := dc_177 (q0_win (r := 80) wn_MO_callsJoy_95 (by decide +kernel))
def t_MO_callsJoy_L97 (x1 : Int) (x2 : Int) (bk11 : Mem → Int → Int → Int → Int → Option (Mem)) (M : Mem) (v3_ : Int) (v4_ : Int) (v5_ : Int) (v6_ : Int) : Option (Mem) := (bk11 M v3_ v4_ v5_ (w32 (v6_ + 1)))
def t_MO_callsJoy_L94 (x1 : Int) (x2 : Int) (bk11 : Mem → Int → Int → Int → Int → Option (Mem)) (M : Mem) (v3_ : Int) (v4_ : Int) (v5_ : Int) (v6_ : Int) (v7_ : Int) : Option (Mem) := (t_MO_callsJoy_L97 x1 x2 bk11 M v3_ v4_ (w32 (v6_ + v7_)) v5_)
def t_MO_callsJoy_L11 (x1 : Int) (x2 : Int)  : Nat → Mem → Int → Int → Int → Int → Option (Mem)
  | 0, _, _, _, _, _ => none
  | fu + 1, M, v3_, v4_, v5_, v6_ => (if (M.1 193 6) ≤ v6_ then (qguard (0 ≤ x2 ∧ x2 < 8) (qlet (setL M 220 0 (q_i2l (M.1 196 x2))) fun M5 => (obind (t_MO_sizeOf M5 x2) fun q6 => (qlet (setL M5 220 1 (q_i2l q6)) fun M8 => (qlet (setL M8 220 2 (q_i2l v3_)) fun M9 => (qlet (setL M9 220 3 (q_i2l v4_)) fun M10 => (qlet (setL M10 220 4 (q_i2l v5_)) fun M11 => (qlet (setL M11 220 5 0) fun M12 => (qguard (0 ≤ x1 ∧ x1 < 23) (qlet (setL M12 220 6 (q_i2l (M12.1 207 x1))) fun M15 => (some M15))))))))))) else (qguard (0 ≤ (w32 ((w32 (8 * x1)) + v6_)) ∧ (w32 ((w32 (8 * x1)) + v6_)) < 184) (obind (t_MO_goesFrom M x1 (M.1 213 (w32 ((w32 (8 * x1)) + v6_)))) fun q18 => (if 0 < (q18.1 191 48) then (t_MO_callsJoy_L97 x1 x2 (fun a0_ a1_ a2_ a3_ a4_ => t_MO_callsJoy_L11 x1 x2 fu a0_ a1_ a2_ a3_ a4_) q18 v3_ v4_ v5_ v6_) else (qguard (0 ≤ (q18.1 191 47) ∧ (q18.1 191 47) < 96) (if (q18.1 197 (q18.1 191 47)) = (w32 (x2 + 1)) then (qguard (0 ≤ v6_ ∧ v6_ < 16) (if (q18.1 191 49) ≤ 0 then (t_MO_callsJoy_L94 x1 x2 (fun a0_ a1_ a2_ a3_ a4_ => t_MO_callsJoy_L11 x1 x2 fu a0_ a1_ a2_ a3_ a4_) q18 (w32 (v3_ + 1)) (w32 (v4_ + (q18.1 201 v6_))) v6_ v5_ 0) else (t_MO_callsJoy_L94 x1 x2 (fun a0_ a1_ a2_ a3_ a4_ => t_MO_callsJoy_L11 x1 x2 fu a0_ a1_ a2_ a3_ a4_) q18 (w32 (v3_ + 1)) (w32 (v4_ + (q18.1 201 v6_))) v6_ v5_ 1))) else (t_MO_callsJoy_L97 x1 x2 (fun a0_ a1_ a2_ a3_ a4_ => t_MO_callsJoy_L11 x1 x2 fu a0_ a1_ a2_ a3_ a4_) q18 v3_ v4_ v5_ v6_)))))))
def t_MO_callsJoy (M : Mem) (x1 : Int) (x2 : Int) : Option (Mem) := (t_MO_callsJoy_L11 x1 x2 FU M 0 0 0 0)
set_option maxHeartbeats 4000000 in
set_option maxRecDepth 100000 in
theorem k_MO_callsJoy_L97 (l : Launch) {p : Program} {e : Env} {s : State} {m : MethodId} {below : List Frame} {meth : Method} {c : Code} {b n : Nat} {C : CT} (hlo : 231 ≤ n) (x1 : Int) (x2 : Int) (hx1 : InR x1) (hx2 : InR x2) (F : Cx b p m c b_MO_callsJoy 7 s ([.ref (b + 191), vI x1, vI x2] : List Value).toArray "WardFallsModel" C n 231) (hlk : meth.locks = false) (hr : meth.sig.returnType = none) {res : Mem} (bk11 : Mem → Int → Int → Int → Int → Option (Mem)) (hbk11 : ∀ (M : Mem) (v3_ : Int) (hv3_ : InR v3_) (v4_ : Int) (hv4_ : InR v4_) (v5_ : Int) (hv5_ : InR v5_) (v6_ : Int) (hv6_ : InR v6_) (H : Heap) (locs : List Loc) (ls : Array Slot), St b C n M s H locs → lv_has ls 7 [(0, .ref (b + 191)), (1, vI x1), (2, vI x2), (3, vI v3_), (4, vI v4_), (5, vI v5_), (6, vI v6_)] → bk11 M v3_ v4_ v5_ v6_ = some res → W p l e (headSpec (wsM y_MO_callsJoy b_MO_callsJoy 7 (none)) (rmD 3)).room s m ([.ref (b + 191), vI x1, vI x2] : List Value).toArray below meth c H locs 0 0 (MQ below (QV b C n res) ([.ref (b + 191), vI x1, vI x2] : List Value).toArray s 0 0 (frb b)) (F0 m 11 ls [])) (M : Mem) (v3_ : Int) (hv3_ : InR v3_) (v4_ : Int) (hv4_ : InR v4_) (v5_ : Int) (hv5_ : InR v5_) (v6_ : Int) (hv6_ : InR v6_) (H : Heap) (locs : List Loc) (ls : Array Slot) (hS : St b C n M s H locs) (hl : lv_has ls 7 [(0, .ref (b + 191)), (1, vI x1), (2, vI x2), (3, vI v3_), (4, vI v4_), (5, vI v5_), (6, vI v6_)]) (hT : t_MO_callsJoy_L97 x1 x2 bk11 M v3_ v4_ v5_ v6_ = some res) : W p l e (headSpec (wsM y_MO_callsJoy b_MO_callsJoy 7 (none)) (rmD 3)).room s m ([.ref (b + 191), vI x1, vI x2] : List Value).toArray below meth c H locs 0 0 (MQ below (QV b C n res) ([.ref (b + 191), vI x1, vI x2] : List Value).toArray s 0 0 (frb b)) (F0 m 97 ls []) := by
  unfold t_MO_callsJoy_L97 at hT
  refine lv_iinc (v := Int32.ofInt (w32 (v6_ + 1))) (lv' := [(6, vI (w32 (v6_ + 1))), (0, .ref (b + 191)), (1, vI x1), (2, vI x2), (3, vI v3_), (4, vI v4_), (5, vI v5_)]) F.hx F.hb d_MO_callsJoy_97 hl (k := 6) rfl (q_of_add _ _) (Nat.le_of_ble_eq_true rfl) rfl (fun ls hl => ?_)
  refine lv_goto (tgt := 11) F.hx F.hb d_MO_callsJoy_100 (by decide) ?_
  exact hbk11 M v3_ hv3_ v4_ hv4_ v5_ hv5_ (w32 (v6_ + 1)) (inr_w32 _) _ _ _ hS (lv_sub hl [1, 2, 3, 4, 5, 6, 0] rfl) hT
set_option maxHeartbeats 4000000 in
set_option maxRecDepth 100000 in
theorem k_MO_callsJoy_L94 (l : Launch) {p : Program} {e : Env} {s : State} {m : MethodId} {below : List Frame} {meth : Method} {c : Code} {b n : Nat} {C : CT} (hlo : 231 ≤ n) (x1 : Int) (x2 : Int) (hx1 : InR x1) (hx2 : InR x2) (F : Cx b p m c b_MO_callsJoy 7 s ([.ref (b + 191), vI x1, vI x2] : List Value).toArray "WardFallsModel" C n 231) (hlk : meth.locks = false) (hr : meth.sig.returnType = none) {res : Mem} (bk11 : Mem → Int → Int → Int → Int → Option (Mem)) (hbk11 : ∀ (M : Mem) (v3_ : Int) (hv3_ : InR v3_) (v4_ : Int) (hv4_ : InR v4_) (v5_ : Int) (hv5_ : InR v5_) (v6_ : Int) (hv6_ : InR v6_) (H : Heap) (locs : List Loc) (ls : Array Slot), St b C n M s H locs → lv_has ls 7 [(0, .ref (b + 191)), (1, vI x1), (2, vI x2), (3, vI v3_), (4, vI v4_), (5, vI v5_), (6, vI v6_)] → bk11 M v3_ v4_ v5_ v6_ = some res → W p l e (headSpec (wsM y_MO_callsJoy b_MO_callsJoy 7 (none)) (rmD 3)).room s m ([.ref (b + 191), vI x1, vI x2] : List Value).toArray below meth c H locs 0 0 (MQ below (QV b C n res) ([.ref (b + 191), vI x1, vI x2] : List Value).toArray s 0 0 (frb b)) (F0 m 11 ls [])) (M : Mem) (v3_ : Int) (hv3_ : InR v3_) (v4_ : Int) (hv4_ : InR v4_) (v5_ : Int) (hv5_ : InR v5_) (v6_ : Int) (hv6_ : InR v6_) (v7_ : Int) (hv7_ : v7_ = 0 ∨ v7_ = 1) (H : Heap) (locs : List Loc) (ls : Array Slot) (hS : St b C n M s H locs) (hl : lv_has ls 7 [(0, .ref (b + 191)), (1, vI x1), (2, vI x2), (3, vI v3_), (4, vI v4_), (6, vI v5_)]) (hT : t_MO_callsJoy_L94 x1 x2 bk11 M v3_ v4_ v5_ v6_ v7_ = some res) : W p l e (headSpec (wsM y_MO_callsJoy b_MO_callsJoy 7 (none)) (rmD 3)).room s m ([.ref (b + 191), vI x1, vI x2] : List Value).toArray below meth c H locs 0 0 (MQ below (QV b C n res) ([.ref (b + 191), vI x1, vI x2] : List Value).toArray s 0 0 (frb b)) (F0 m 94 ls [vI v7_, vI v6_]) := by
  unfold t_MO_callsJoy_L94 at hT
  refine r_iadd F.hx F.hb d_MO_callsJoy_94 ?_
  refine lv_istore (lv' := [(5, vI (w32 (v6_ + v7_))), (0, .ref (b + 191)), (1, vI x1), (2, vI x2), (3, vI v3_), (4, vI v4_), (6, vI v5_)]) F.hx F.hb d_MO_callsJoy_95 hl (Nat.le_of_ble_eq_true rfl) rfl (fun ls hl => ?_)
  exact k_MO_callsJoy_L97 l hlo x1 x2 hx1 hx2 F hlk hr bk11 hbk11 M v3_ hv3_ v4_ hv4_ (w32 (v6_ + v7_)) (inr_w32 _) v5_ hv5_ _ _ _ hS (lv_sub hl [1, 2, 3, 4, 5, 0, 6] rfl) hT
set_option maxHeartbeats 4000000 in
set_option maxRecDepth 100000 in
theorem k_MO_callsJoy_L11 (l : Launch) {p : Program} {e : Env} {s : State} {m : MethodId} {below : List Frame} {meth : Method} {c : Code} {b n : Nat} {C : CT} (hlo : 231 ≤ n) (x1 : Int) (x2 : Int) (hx1 : InR x1) (hx2 : InR x2) (F : Cx b p m c b_MO_callsJoy 7 s ([.ref (b + 191), vI x1, vI x2] : List Value).toArray "WardFallsModel" C n 231) (hlk : meth.locks = false) (hr : meth.sig.returnType = none) {res : Mem} : ∀ (fu : Nat) (M : Mem) (v3_ : Int) (hv3_ : InR v3_) (v4_ : Int) (hv4_ : InR v4_) (v5_ : Int) (hv5_ : InR v5_) (v6_ : Int) (hv6_ : InR v6_) (H : Heap) (locs : List Loc) (ls : Array Slot), St b C n M s H locs → lv_has ls 7 [(0, .ref (b + 191)), (1, vI x1), (2, vI x2), (3, vI v3_), (4, vI v4_), (5, vI v5_), (6, vI v6_)] → t_MO_callsJoy_L11 x1 x2 fu M v3_ v4_ v5_ v6_ = some res → W p l e (headSpec (wsM y_MO_callsJoy b_MO_callsJoy 7 (none)) (rmD 3)).room s m ([.ref (b + 191), vI x1, vI x2] : List Value).toArray below meth c H locs 0 0 (MQ below (QV b C n res) ([.ref (b + 191), vI x1, vI x2] : List Value).toArray s 0 0 (frb b)) (F0 m 11 ls []) := by
  intro fu
  induction fu with
  | zero => intro M v3_ hv3_ v4_ hv4_ v5_ hv5_ v6_ hv6_ H locs ls hS hl hT; exact absurd hT (by simp [t_MO_callsJoy_L11])
  | succ fu ih =>
    intro M v3_ hv3_ v4_ hv4_ v5_ hv5_ v6_ hv6_ H locs ls hS hl hT
    rw [t_MO_callsJoy_L11] at hT
    refine lv_iload F.hx F.hb d_MO_callsJoy_11 (lv_at hl 6 rfl) ?_
    refine lv_aload_n F.hx F.hb d_MO_callsJoy_13 rfl (lv_at hl 0 rfl) ?_
    refine r_get (v := .ref (b + 193)) (N := 68) (T := T1) (j := 3) F hS (show 191 < 231 by decide) (show shK 191 = 5 from rfl) (show shN 191 = 68 from rfl) rfl (Nat.le_of_ble_eq_true rfl) ing1 mw_1392 (fv_sg rfl rfl rfl) d_MO_callsJoy_14 ?_
    refine r_bipush F.hx F.hb d_MO_callsJoy_17 rfl ?_
    refine r_iald F hS (show 193 < 231 by decide) (show shK 193 = 0 from rfl) (show shN 193 = 18 from rfl) (inr_c rfl) (by omega) (by omega) d_MO_callsJoy_19 ?_
    have i1 := hS.rng 193 6
    refine r_icmp_ge (tgt := 103) F.hx F.hb hv6_ i1 d_MO_callsJoy_20 (by decide) (fun c2 => ?_) (fun c2 => ?_)
    · replace hT := (if_pos c2).symm.trans hT
      refine lv_aload_n F.hx F.hb d_MO_callsJoy_103 rfl (lv_at hl 0 rfl) ?_
      refine r_get (v := .ref (b + 220)) (N := 68) (T := T1) (j := 52) F hS (show 191 < 231 by decide) (show shK 191 = 5 from rfl) (show shN 191 = 68 from rfl) rfl (Nat.le_of_ble_eq_true rfl) ing1 mw_1441 (fv_sg rfl rfl rfl) d_MO_callsJoy_104 ?_
      refine r_iconst F.hx F.hb d_MO_callsJoy_107 ?_
      refine lv_aload_n F.hx F.hb d_MO_callsJoy_108 rfl (lv_at hl 0 rfl) ?_
      refine r_get (v := .ref (b + 196)) (N := 68) (T := T1) (j := 6) F hS (show 191 < 231 by decide) (show shK 191 = 5 from rfl) (show shN 191 = 68 from rfl) rfl (Nat.le_of_ble_eq_true rfl) ing1 mw_1395 (fv_sg rfl rfl rfl) d_MO_callsJoy_109 ?_
      refine lv_iload_n F.hx F.hb d_MO_callsJoy_112 rfl (lv_at hl 2 rfl) ?_
      obtain ⟨⟨g3a, g3b⟩, hT⟩ := q_guard hT
      refine r_iald F hS (show 196 < 231 by decide) (show shK 196 = 0 from rfl) (show shN 196 = 8 from rfl) hx2 g3a g3b d_MO_callsJoy_113 ?_
      have i4 := hS.rng 196 x2
      refine r_i2l F.hx F.hb d_MO_callsJoy_114 ?_
      refine r_last F hS (show 220 < 231 by decide) (show shK 220 = 2 from rfl) (show shN 220 = 7 from rfl) (inr_c rfl) (by omega) (by omega) d_MO_callsJoy_115 (fun H locs hS => ?_)
      obtain ⟨M5, eM5⟩ : ∃ q, q = (setL M 220 0 (q_i2l (M.1 196 x2))) := ⟨_, rfl⟩
      replace hS : St b C n M5 s H locs := by rw [eM5]; exact hS
      replace hT := qlet_eq hT eM5
      refine lv_aload_n F.hx F.hb d_MO_callsJoy_116 rfl (lv_at hl 0 rfl) ?_
      refine r_get (v := .ref (b + 220)) (N := 68) (T := T1) (j := 52) F hS (show 191 < 231 by decide) (show shK 191 = 5 from rfl) (show shN 191 = 68 from rfl) rfl (Nat.le_of_ble_eq_true rfl) ing1 mw_1441 (fv_sg rfl rfl rfl) d_MO_callsJoy_117 ?_
      refine r_iconst F.hx F.hb d_MO_callsJoy_120 ?_
      refine lv_aload_n F.hx F.hb d_MO_callsJoy_121 rfl (lv_at hl 0 rfl) ?_
      refine lv_iload_n F.hx F.hb d_MO_callsJoy_122 rfl (lv_at hl 2 rfl) ?_
      obtain ⟨q6, hq6, hT⟩ := q_obind hT
      refine r_backI F hS (r_runV (k := 191) (N := 68) (T := T1) (As := [vI x2]) F hS (show 191 < 231 by decide) (show shK 191 = 5 from rfl) rfl (c_MO_sizeOf l F.2.2.1 M5 x2 hx2 _ hq6) gs_MO_372 hd_MO_sizeOf ⟨Nat.le_of_ble_eq_true rfl, Nat.le_of_ble_eq_true rfl⟩ rfl hl.1 (Nat.le_of_ble_eq_true rfl) ⟨Nat.zero_le _, Nat.zero_le _⟩ rfl d_MO_callsJoy_123) (fun H locs hS h7 => ?_)
      refine r_i2l F.hx F.hb d_MO_callsJoy_126 ?_
      refine r_last F hS (show 220 < 231 by decide) (show shK 220 = 2 from rfl) (show shN 220 = 7 from rfl) (inr_c rfl) (by omega) (by omega) d_MO_callsJoy_127 (fun H locs hS => ?_)
      obtain ⟨M8, eM8⟩ : ∃ q, q = (setL M5 220 1 (q_i2l q6)) := ⟨_, rfl⟩
      replace hS : St b C n M8 s H locs := by rw [eM8]; exact hS
      replace hT := qlet_eq hT eM8
      refine lv_aload_n F.hx F.hb d_MO_callsJoy_128 rfl (lv_at hl 0 rfl) ?_
      refine r_get (v := .ref (b + 220)) (N := 68) (T := T1) (j := 52) F hS (show 191 < 231 by decide) (show shK 191 = 5 from rfl) (show shN 191 = 68 from rfl) rfl (Nat.le_of_ble_eq_true rfl) ing1 mw_1441 (fv_sg rfl rfl rfl) d_MO_callsJoy_129 ?_
      refine r_iconst F.hx F.hb d_MO_callsJoy_132 ?_
      refine lv_iload_n F.hx F.hb d_MO_callsJoy_133 rfl (lv_at hl 3 rfl) ?_
      refine r_i2l F.hx F.hb d_MO_callsJoy_134 ?_
      refine r_last F hS (show 220 < 231 by decide) (show shK 220 = 2 from rfl) (show shN 220 = 7 from rfl) (inr_c rfl) (by omega) (by omega) d_MO_callsJoy_135 (fun H locs hS => ?_)
      obtain ⟨M9, eM9⟩ : ∃ q, q = (setL M8 220 2 (q_i2l v3_)) := ⟨_, rfl⟩
      replace hS : St b C n M9 s H locs := by rw [eM9]; exact hS
      replace hT := qlet_eq hT eM9
      refine lv_aload_n F.hx F.hb d_MO_callsJoy_136 rfl (lv_at hl 0 rfl) ?_
      refine r_get (v := .ref (b + 220)) (N := 68) (T := T1) (j := 52) F hS (show 191 < 231 by decide) (show shK 191 = 5 from rfl) (show shN 191 = 68 from rfl) rfl (Nat.le_of_ble_eq_true rfl) ing1 mw_1441 (fv_sg rfl rfl rfl) d_MO_callsJoy_137 ?_
      refine r_iconst F.hx F.hb d_MO_callsJoy_140 ?_
      refine lv_iload F.hx F.hb d_MO_callsJoy_141 (lv_at hl 4 rfl) ?_
      refine r_i2l F.hx F.hb d_MO_callsJoy_143 ?_
      refine r_last F hS (show 220 < 231 by decide) (show shK 220 = 2 from rfl) (show shN 220 = 7 from rfl) (inr_c rfl) (by omega) (by omega) d_MO_callsJoy_144 (fun H locs hS => ?_)
      obtain ⟨M10, eM10⟩ : ∃ q, q = (setL M9 220 3 (q_i2l v4_)) := ⟨_, rfl⟩
      replace hS : St b C n M10 s H locs := by rw [eM10]; exact hS
      replace hT := qlet_eq hT eM10
      refine lv_aload_n F.hx F.hb d_MO_callsJoy_145 rfl (lv_at hl 0 rfl) ?_
      refine r_get (v := .ref (b + 220)) (N := 68) (T := T1) (j := 52) F hS (show 191 < 231 by decide) (show shK 191 = 5 from rfl) (show shN 191 = 68 from rfl) rfl (Nat.le_of_ble_eq_true rfl) ing1 mw_1441 (fv_sg rfl rfl rfl) d_MO_callsJoy_146 ?_
      refine r_iconst F.hx F.hb d_MO_callsJoy_149 ?_
      refine lv_iload F.hx F.hb d_MO_callsJoy_150 (lv_at hl 5 rfl) ?_
      refine r_i2l F.hx F.hb d_MO_callsJoy_152 ?_
      refine r_last F hS (show 220 < 231 by decide) (show shK 220 = 2 from rfl) (show shN 220 = 7 from rfl) (inr_c rfl) (by omega) (by omega) d_MO_callsJoy_153 (fun H locs hS => ?_)
      obtain ⟨M11, eM11⟩ : ∃ q, q = (setL M10 220 4 (q_i2l v5_)) := ⟨_, rfl⟩
      replace hS : St b C n M11 s H locs := by rw [eM11]; exact hS
      replace hT := qlet_eq hT eM11
      refine lv_aload_n F.hx F.hb d_MO_callsJoy_154 rfl (lv_at hl 0 rfl) ?_
      refine r_get (v := .ref (b + 220)) (N := 68) (T := T1) (j := 52) F hS (show 191 < 231 by decide) (show shK 191 = 5 from rfl) (show shN 191 = 68 from rfl) rfl (Nat.le_of_ble_eq_true rfl) ing1 mw_1441 (fv_sg rfl rfl rfl) d_MO_callsJoy_155 ?_
      refine r_iconst F.hx F.hb d_MO_callsJoy_158 ?_
      refine lv_lconst (v := 0) F.hx F.hb d_MO_callsJoy_159 rfl ?_
      refine r_last F hS (show 220 < 231 by decide) (show shK 220 = 2 from rfl) (show shN 220 = 7 from rfl) (inr_c rfl) (by omega) (by omega) d_MO_callsJoy_160 (fun H locs hS => ?_)
      obtain ⟨M12, eM12⟩ : ∃ q, q = (setL M11 220 5 0) := ⟨_, rfl⟩
      replace hS : St b C n M12 s H locs := by rw [eM12]; exact hS
      replace hT := qlet_eq hT eM12
      refine lv_aload_n F.hx F.hb d_MO_callsJoy_161 rfl (lv_at hl 0 rfl) ?_
      refine r_get (v := .ref (b + 220)) (N := 68) (T := T1) (j := 52) F hS (show 191 < 231 by decide) (show shK 191 = 5 from rfl) (show shN 191 = 68 from rfl) rfl (Nat.le_of_ble_eq_true rfl) ing1 mw_1441 (fv_sg rfl rfl rfl) d_MO_callsJoy_162 ?_
      refine r_bipush F.hx F.hb d_MO_callsJoy_165 rfl ?_
      refine lv_aload_n F.hx F.hb d_MO_callsJoy_167 rfl (lv_at hl 0 rfl) ?_
      refine r_get (v := .ref (b + 207)) (N := 68) (T := T1) (j := 30) F hS (show 191 < 231 by decide) (show shK 191 = 5 from rfl) (show shN 191 = 68 from rfl) rfl (Nat.le_of_ble_eq_true rfl) ing1 mw_1419 (fv_sg rfl rfl rfl) d_MO_callsJoy_168 ?_
      refine lv_iload_n F.hx F.hb d_MO_callsJoy_171 rfl (lv_at hl 1 rfl) ?_
      obtain ⟨⟨g13a, g13b⟩, hT⟩ := q_guard hT
      refine r_iald F hS (show 207 < 231 by decide) (show shK 207 = 0 from rfl) (show shN 207 = 23 from rfl) hx1 g13a g13b d_MO_callsJoy_172 ?_
      have i14 := hS.rng 207 x1
      refine r_i2l F.hx F.hb d_MO_callsJoy_173 ?_
      refine r_last F hS (show 220 < 231 by decide) (show shK 220 = 2 from rfl) (show shN 220 = 7 from rfl) (inr_c rfl) (by omega) (by omega) d_MO_callsJoy_174 (fun H locs hS => ?_)
      obtain ⟨M15, eM15⟩ : ∃ q, q = (setL M12 220 6 (q_i2l (M12.1 207 x1))) := ⟨_, rfl⟩
      replace hS : St b C n M15 s H locs := by rw [eM15]; exact hS
      replace hT := qlet_eq hT eM15
      cases hT
      exact r_vret F hlk hr hS d_MO_callsJoy_175
    · replace hT := (if_neg c2).symm.trans hT
      refine lv_aload_n F.hx F.hb d_MO_callsJoy_23 rfl (lv_at hl 0 rfl) ?_
      refine lv_iload_n F.hx F.hb d_MO_callsJoy_24 rfl (lv_at hl 1 rfl) ?_
      refine lv_aload_n F.hx F.hb d_MO_callsJoy_25 rfl (lv_at hl 0 rfl) ?_
      refine r_get (v := .ref (b + 213)) (N := 68) (T := T1) (j := 36) F hS (show 191 < 231 by decide) (show shK 191 = 5 from rfl) (show shN 191 = 68 from rfl) rfl (Nat.le_of_ble_eq_true rfl) ing1 mw_1425 (fv_sg rfl rfl rfl) d_MO_callsJoy_26 ?_
      refine r_bipush F.hx F.hb d_MO_callsJoy_29 rfl ?_
      refine lv_iload_n F.hx F.hb d_MO_callsJoy_31 rfl (lv_at hl 1 rfl) ?_
      refine r_imul F.hx F.hb d_MO_callsJoy_32 ?_
      refine lv_iload F.hx F.hb d_MO_callsJoy_33 (lv_at hl 6 rfl) ?_
      refine r_iadd F.hx F.hb d_MO_callsJoy_35 ?_
      obtain ⟨⟨g16a, g16b⟩, hT⟩ := q_guard hT
      refine r_iald F hS (show 213 < 231 by decide) (show shK 213 = 0 from rfl) (show shN 213 = 184 from rfl) (inr_w32 _) g16a g16b d_MO_callsJoy_36 ?_
      have i17 := hS.rng 213 (w32 ((w32 (8 * x1)) + v6_))
      obtain ⟨q18, hq18, hT⟩ := q_obind hT
      refine r_backV F hS (r_runV (k := 191) (N := 68) (T := T1) (As := [vI x1, vI (M.1 213 (w32 ((w32 (8 * x1)) + v6_)))]) F hS (show 191 < 231 by decide) (show shK 191 = 5 from rfl) rfl (c_MO_goesFrom l F.2.2.1 M x1 (M.1 213 (w32 ((w32 (8 * x1)) + v6_))) hx1 i17 _ hq18) gs_MO_414 hd_MO_goesFrom ⟨Nat.le_of_ble_eq_true rfl, Nat.le_of_ble_eq_true rfl⟩ rfl hl.1 (Nat.le_of_ble_eq_true rfl) ⟨Nat.zero_le _, Nat.zero_le _⟩ rfl d_MO_callsJoy_37) (fun H locs hS => ?_)
      refine lv_aload_n F.hx F.hb d_MO_callsJoy_40 rfl (lv_at hl 0 rfl) ?_
      refine r_get (v := vI (q18.1 191 48)) (N := 68) (T := T1) (j := 48) F hS (show 191 < 231 by decide) (show shK 191 = 5 from rfl) (show shN 191 = 68 from rfl) rfl (Nat.le_of_ble_eq_true rfl) ing1 mw_1437 (fv_int rfl) d_MO_callsJoy_41 ?_
      have i20 := hS.rng 191 48
      refine r_if_gt (tgt := 97) F.hx F.hb i20 d_MO_callsJoy_44 (by decide) (fun c21 => ?_) (fun c21 => ?_)
      · replace hT := (if_pos c21).symm.trans hT
        exact k_MO_callsJoy_L97 l hlo x1 x2 hx1 hx2 F hlk hr (fun a0_ a1_ a2_ a3_ a4_ => t_MO_callsJoy_L11 x1 x2 fu a0_ a1_ a2_ a3_ a4_) ih q18 v3_ hv3_ v4_ hv4_ v5_ hv5_ v6_ hv6_ _ _ _ hS (lv_sub hl [0, 1, 2, 3, 4, 5, 6] rfl) hT
      · replace hT := (if_neg c21).symm.trans hT
        refine lv_aload_n F.hx F.hb d_MO_callsJoy_47 rfl (lv_at hl 0 rfl) ?_
        refine r_get (v := .ref (b + 197)) (N := 68) (T := T1) (j := 7) F hS (show 191 < 231 by decide) (show shK 191 = 5 from rfl) (show shN 191 = 68 from rfl) rfl (Nat.le_of_ble_eq_true rfl) ing1 mw_1396 (fv_sg rfl rfl rfl) d_MO_callsJoy_48 ?_
        refine lv_aload_n F.hx F.hb d_MO_callsJoy_51 rfl (lv_at hl 0 rfl) ?_
        refine r_get (v := vI (q18.1 191 47)) (N := 68) (T := T1) (j := 47) F hS (show 191 < 231 by decide) (show shK 191 = 5 from rfl) (show shN 191 = 68 from rfl) rfl (Nat.le_of_ble_eq_true rfl) ing1 mw_1436 (fv_int rfl) d_MO_callsJoy_52 ?_
        have i22 := hS.rng 191 47
        obtain ⟨⟨g23a, g23b⟩, hT⟩ := q_guard hT
        refine r_iald F hS (show 197 < 231 by decide) (show shK 197 = 0 from rfl) (show shN 197 = 96 from rfl) i22 g23a g23b d_MO_callsJoy_55 ?_
        have i24 := hS.rng 197 (q18.1 191 47)
        refine lv_iload_n F.hx F.hb d_MO_callsJoy_56 rfl (lv_at hl 2 rfl) ?_
        refine r_iconst F.hx F.hb d_MO_callsJoy_57 ?_
        refine r_iadd F.hx F.hb d_MO_callsJoy_58 ?_
        refine r_icmp_eq (tgt := 65) F.hx F.hb i24 (inr_w32 _) d_MO_callsJoy_59 (by decide) (fun c25 => ?_) (fun c25 => ?_)
        · replace hT := (if_pos c25).symm.trans hT
          refine lv_iinc (v := Int32.ofInt (w32 (v3_ + 1))) (lv' := [(3, vI (w32 (v3_ + 1))), (0, .ref (b + 191)), (1, vI x1), (2, vI x2), (4, vI v4_), (5, vI v5_), (6, vI v6_)]) F.hx F.hb d_MO_callsJoy_65 hl (k := 3) rfl (q_of_add _ _) (Nat.le_of_ble_eq_true rfl) rfl (fun ls hl => ?_)
          refine lv_iload F.hx F.hb d_MO_callsJoy_68 (lv_at hl 4 rfl) ?_
          refine lv_aload_n F.hx F.hb d_MO_callsJoy_70 rfl (lv_at hl 1 rfl) ?_
          refine r_get (v := .ref (b + 201)) (N := 68) (T := T1) (j := 11) F hS (show 191 < 231 by decide) (show shK 191 = 5 from rfl) (show shN 191 = 68 from rfl) rfl (Nat.le_of_ble_eq_true rfl) ing1 mw_1400 (fv_sg rfl rfl rfl) d_MO_callsJoy_71 ?_
          refine lv_iload F.hx F.hb d_MO_callsJoy_74 (lv_at hl 6 rfl) ?_
          obtain ⟨⟨g26a, g26b⟩, hT⟩ := q_guard hT
          refine r_iald F hS (show 201 < 231 by decide) (show shK 201 = 0 from rfl) (show shN 201 = 16 from rfl) hv6_ g26a g26b d_MO_callsJoy_76 ?_
          have i27 := hS.rng 201 v6_
          refine r_iadd F.hx F.hb d_MO_callsJoy_77 ?_
          refine lv_istore (lv' := [(4, vI (w32 (v4_ + (q18.1 201 v6_)))), (3, vI (w32 (v3_ + 1))), (0, .ref (b + 191)), (1, vI x1), (2, vI x2), (5, vI v5_), (6, vI v6_)]) F.hx F.hb d_MO_callsJoy_78 hl (Nat.le_of_ble_eq_true rfl) rfl (fun ls hl => ?_)
          refine lv_iload F.hx F.hb d_MO_callsJoy_80 (lv_at hl 5 rfl) ?_
          refine lv_aload_n F.hx F.hb d_MO_callsJoy_82 rfl (lv_at hl 2 rfl) ?_
          refine r_get (v := vI (q18.1 191 49)) (N := 68) (T := T1) (j := 49) F hS (show 191 < 231 by decide) (show shK 191 = 5 from rfl) (show shN 191 = 68 from rfl) rfl (Nat.le_of_ble_eq_true rfl) ing1 mw_1438 (fv_int rfl) d_MO_callsJoy_83 ?_
          have i28 := hS.rng 191 49
          refine r_if_le (tgt := 93) F.hx F.hb i28 d_MO_callsJoy_86 (by decide) (fun c29 => ?_) (fun c29 => ?_)
          · replace hT := (if_pos c29).symm.trans hT
            refine r_iconst F.hx F.hb d_MO_callsJoy_93 ?_
            exact k_MO_callsJoy_L94 l hlo x1 x2 hx1 hx2 F hlk hr (fun a0_ a1_ a2_ a3_ a4_ => t_MO_callsJoy_L11 x1 x2 fu a0_ a1_ a2_ a3_ a4_) ih q18 (w32 (v3_ + 1)) (inr_w32 _) (w32 (v4_ + (q18.1 201 v6_))) (inr_w32 _) v6_ hv6_ v5_ hv5_ 0 (Or.inl rfl) _ _ _ hS (lv_sub hl [2, 3, 4, 1, 0, 6] rfl) hT
          · replace hT := (if_neg c29).symm.trans hT
            refine r_iconst F.hx F.hb d_MO_callsJoy_89 ?_
            refine lv_goto (tgt := 94) F.hx F.hb d_MO_callsJoy_90 (by decide) ?_
            exact k_MO_callsJoy_L94 l hlo x1 x2 hx1 hx2 F hlk hr (fun a0_ a1_ a2_ a3_ a4_ => t_MO_callsJoy_L11 x1 x2 fu a0_ a1_ a2_ a3_ a4_) ih q18 (w32 (v3_ + 1)) (inr_w32 _) (w32 (v4_ + (q18.1 201 v6_))) (inr_w32 _) v6_ hv6_ v5_ hv5_ 1 (Or.inr rfl) _ _ _ hS (lv_sub hl [2, 3, 4, 1, 0, 6] rfl) hT
        · replace hT := (if_neg c25).symm.trans hT
          refine lv_goto (tgt := 97) F.hx F.hb d_MO_callsJoy_62 (by decide) ?_
          exact k_MO_callsJoy_L97 l hlo x1 x2 hx1 hx2 F hlk hr (fun a0_ a1_ a2_ a3_ a4_ => t_MO_callsJoy_L11 x1 x2 fu a0_ a1_ a2_ a3_ a4_) ih q18 v3_ hv3_ v4_ hv4_ v5_ hv5_ v6_ hv6_ _ _ _ hS (lv_sub hl [0, 1, 2, 3, 4, 5, 6] rfl) hT
set_option maxHeartbeats 4000000 in
set_option maxRecDepth 100000 in
theorem c_MO_callsJoy (l : Launch) {b n : Nat} {C : CT} (hlo : 231 ≤ n) (M : Mem) (x1 : Int) (x2 : Int) (hx1 : InR x1) (hx2 : InR x2) (res : Mem) (hT : t_MO_callsJoy M x1 x2 = some res) : CM l b C n 3 y_MO_callsJoy b_MO_callsJoy 7 (none) [.ref (b + 191), vI x1, vI x2] M (QV b C n res) := by
  refine CM.of (lo := 231) (ow := "WardFallsModel") (by decide) rfl (Nat.le_of_ble_eq_true rfl) hlo (fun p e s m below meth c F hlk hr hS ls hl => ?_)
  have hl : lv_has ls 7 [(0, .ref (b + 191)), (1, vI x1), (2, vI x2)] := hl
  unfold t_MO_callsJoy at hT
  refine r_iconst F.hx F.hb d_MO_callsJoy_0 ?_
  refine lv_istore_n (lv' := [(3, vI 0), (0, .ref (b + 191)), (1, vI x1), (2, vI x2)]) F.hx F.hb d_MO_callsJoy_1 rfl hl (Nat.le_of_ble_eq_true rfl) rfl (fun ls hl => ?_)
  refine r_iconst F.hx F.hb d_MO_callsJoy_2 ?_
  refine lv_istore (lv' := [(4, vI 0), (3, vI 0), (0, .ref (b + 191)), (1, vI x1), (2, vI x2)]) F.hx F.hb d_MO_callsJoy_3 hl (Nat.le_of_ble_eq_true rfl) rfl (fun ls hl => ?_)
  refine r_iconst F.hx F.hb d_MO_callsJoy_5 ?_
  refine lv_istore (lv' := [(5, vI 0), (4, vI 0), (3, vI 0), (0, .ref (b + 191)), (1, vI x1), (2, vI x2)]) F.hx F.hb d_MO_callsJoy_6 hl (Nat.le_of_ble_eq_true rfl) rfl (fun ls hl => ?_)
  refine r_iconst F.hx F.hb d_MO_callsJoy_8 ?_
  refine lv_istore (lv' := [(6, vI 0), (5, vI 0), (4, vI 0), (3, vI 0), (0, .ref (b + 191)), (1, vI x1), (2, vI x2)]) F.hx F.hb d_MO_callsJoy_9 hl (Nat.le_of_ble_eq_true rfl) rfl (fun ls hl => ?_)
  exact k_MO_callsJoy_L11 l hlo x1 x2 hx1 hx2 F hlk hr FU M 0 (inr_c rfl) 0 (inr_c rfl) 0 (inr_c rfl) 0 (inr_c rfl) _ _ _ hS (lv_sub hl [4, 5, 6, 3, 2, 1, 0] rfl) hT
theorem d_MO_hasLaw_0 : decode b_MO_hasLaw 0 = .ok (.aload_n 0, 1) := dc_42 (by decide +kernel)
theorem d_MO_hasLaw_1 : decode b_MO_hasLaw 1 = .ok (.getfield 47, 3) := dc_180 (by decide +kernel)
theorem d_MO_hasLaw_4 : decode b_MO_hasLaw 4 = .ok (.iload_n 1, 1) := dc_27 (by decide +kernel)
theorem d_MO_hasLaw_5 : decode b_MO_hasLaw 5 = .ok (.iaload, 1) := dc_46 (by decide +kernel)
theorem d_MO_hasLaw_6 : decode b_MO_hasLaw 6 = .ok (.aload_n 0, 1) := dc_42 (by decide +kernel)
theorem d_MO_hasLaw_7 : decode b_MO_hasLaw 7 = .ok (.getfield 44, 3) := dc_180 (by decide +kernel)
theorem d_MO_hasLaw_10 : decode b_MO_hasLaw 10 = .ok (.iload_n 1, 1) := dc_27 (by decide +kernel)
theorem d_MO_hasLaw_11 : decode b_MO_hasLaw 11 = .ok (.iaload, 1) := dc_46 (by decide +kernel)
theorem d_MO_hasLaw_12 : decode b_MO_hasLaw 12 = .ok (.if_icmp .le 7, 3) := dc_164 (by decide +kernel)
theorem d_MO_hasLaw_15 : decode b_MO_hasLaw 15 = .ok (.iconst 1, 1) := dc_4 (by decide +kernel)
theorem d_MO_hasLaw_16 : decode b_MO_hasLaw 16 = .ok (.goto 4, 3) := dc_167 (by decide +kernel)
theorem d_MO_hasLaw_19 : decode b_MO_hasLaw 19 = .ok (.iconst 0, 1) := dc_3 (by decide +kernel)
theorem d_MO_hasLaw_20 : decode b_MO_hasLaw 20 = .ok (.ireturn, 1) := dc_172 (by decide +kernel)
def t_MO_hasLaw (M : Mem) (x1 : Int) : Option (Int) := (qguard (0 ≤ x1 ∧ x1 < 4) (qguard (0 ≤ x1 ∧ x1 < 4) (if (M.1 204 x1) ≤ (M.1 203 x1) then (some 0) else (some 1))))
set_option maxHeartbeats 4000000 in
set_option maxRecDepth 100000 in
theorem c_MO_hasLaw (l : Launch) {b n : Nat} {C : CT} (hlo : 231 ≤ n) (M : Mem) (x1 : Int) (hx1 : InR x1) (res : Int) (hT : t_MO_hasLaw M x1 = some res) : CM l b C n 0 y_MO_hasLaw b_MO_hasLaw 2 (some .boolean) [.ref (b + 191), vI x1] M (QZ b C n M res) := by
  refine CM.of (lo := 231) (ow := "WardFallsModel") (by decide) rfl (Nat.le_of_ble_eq_true rfl) hlo (fun p e s m below meth c F hlk hr hS ls hl => ?_)
  have hl : lv_has ls 2 [(0, .ref (b + 191)), (1, vI x1)] := hl
  unfold t_MO_hasLaw at hT
  refine lv_aload_n F.hx F.hb d_MO_hasLaw_0 rfl (lv_at hl 0 rfl) ?_
  refine r_get (v := .ref (b + 204)) (N := 68) (T := T1) (j := 14) F hS (show 191 < 231 by decide) (show shK 191 = 5 from rfl) (show shN 191 = 68 from rfl) rfl (Nat.le_of_ble_eq_true rfl) ing1 mw_1403 (fv_sg rfl rfl rfl) d_MO_hasLaw_1 ?_
  refine lv_iload_n F.hx F.hb d_MO_hasLaw_4 rfl (lv_at hl 1 rfl) ?_
  obtain ⟨⟨g1a, g1b⟩, hT⟩ := q_guard hT
  refine r_iald F hS (show 204 < 231 by decide) (show shK 204 = 0 from rfl) (show shN 204 = 4 from rfl) hx1 g1a g1b d_MO_hasLaw_5 ?_
  have i2 := hS.rng 204 x1
  refine lv_aload_n F.hx F.hb d_MO_hasLaw_6 rfl (lv_at hl 0 rfl) ?_
  refine r_get (v := .ref (b + 203)) (N := 68) (T := T1) (j := 13) F hS (show 191 < 231 by decide) (show shK 191 = 5 from rfl) (show shN 191 = 68 from rfl) rfl (Nat.le_of_ble_eq_true rfl) ing1 mw_1402 (fv_sg rfl rfl rfl) d_MO_hasLaw_7 ?_
  refine lv_iload_n F.hx F.hb d_MO_hasLaw_10 rfl (lv_at hl 1 rfl) ?_
  obtain ⟨⟨g3a, g3b⟩, hT⟩ := q_guard hT
  refine r_iald F hS (show 203 < 231 by decide) (show shK 203 = 0 from rfl) (show shN 203 = 4 from rfl) hx1 g3a g3b d_MO_hasLaw_11 ?_
  have i4 := hS.rng 203 x1
  refine r_icmp_le (tgt := 19) F.hx F.hb i2 i4 d_MO_hasLaw_12 (by decide) (fun c5 => ?_) (fun c5 => ?_)
  · replace hT := (if_pos c5).symm.trans hT
    refine r_iconst F.hx F.hb d_MO_hasLaw_19 ?_
    cases hT
    exact r_zret F hlk hr hS (Or.inl rfl) d_MO_hasLaw_20
  · replace hT := (if_neg c5).symm.trans hT
    refine r_iconst F.hx F.hb d_MO_hasLaw_15 ?_
    refine lv_goto (tgt := 20) F.hx F.hb d_MO_hasLaw_16 (by decide) ?_
    cases hT
    exact r_zret F hlk hr hS (Or.inr rfl) d_MO_hasLaw_20
theorem d_MO_is_0 : decode b_MO_is 0 = .ok (.iload_n 0, 1) := dc_26 (by decide +kernel)
theorem d_MO_is_1 : decode b_MO_is 1 = .ok (.ifCond .eq 7, 3) := dc_153 (by decide +kernel)
theorem d_MO_is_4 : decode b_MO_is 4 = .ok (.lconst 1, 1) := dc_10 (by decide +kernel)
theorem d_MO_is_5 : decode b_MO_is 5 = .ok (.goto 4, 3) := dc_167 (by decide +kernel)
theorem d_MO_is_8 : decode b_MO_is 8 = .ok (.lconst 0, 1) := dc_9 (by decide +kernel)
theorem d_MO_is_9 : decode b_MO_is 9 = .ok (.lreturn, 1) := dc_173 (by decide +kernel)
def t_MO_is (M : Mem) (x1 : Int) : Int64 := (if x1 = 0 then 0 else 1)
set_option maxHeartbeats 4000000 in
set_option maxRecDepth 100000 in
theorem c_MO_is (l : Launch) {b n : Nat} {C : CT} (hlo : 231 ≤ n) (M : Mem) (x1 : Int) (hx1 : InR x1) (res : Int64) (hT : t_MO_is M x1 = res) : CM l b C n 0 y_MO_is b_MO_is 1 (some .long) [vI x1] M (QL b C n M res) := by
  refine CM.of (lo := 231) (ow := "WardFallsModel") (by decide) rfl (Nat.le_of_ble_eq_true rfl) hlo (fun p e s m below meth c F hlk hr hS ls hl => ?_)
  have hl : lv_has ls 1 [(0, vI x1)] := hl
  unfold t_MO_is at hT
  refine lv_iload_n F.hx F.hb d_MO_is_0 rfl (lv_at hl 0 rfl) ?_
  refine r_if_eq (tgt := 8) F.hx F.hb hx1 d_MO_is_1 (by decide) (fun c1 => ?_) (fun c1 => ?_)
  · replace hT := (if_pos c1).symm.trans hT
    refine lv_lconst (v := 0) F.hx F.hb d_MO_is_8 rfl ?_
    subst hT
    exact r_lret F hlk hr hS d_MO_is_9
  · replace hT := (if_neg c1).symm.trans hT
    refine lv_lconst (v := 1) F.hx F.hb d_MO_is_4 rfl ?_
    refine lv_goto (tgt := 9) F.hx F.hb d_MO_is_5 (by decide) ?_
    subst hT
    exact r_lret F hlk hr hS d_MO_is_9
theorem wn_MO_works_0 : ∀ i, i < 70 → bA b_MO_works (0 + i) = wB [42, 180, 0, 109, 42, 180, 1, 125, 4, 100, 47, 65, 27, 17, 1, 4, 160, 0, 30, 42, 180, 0, 109, 42, 180, 1, 125, 4, 100, 32, 9, 148, 154, 0, 7, 4, 167, 0, 4, 3, 184, 1, 128, 80, 4, 172, 42, 180, 0, 109, 42, 180, 1, 125, 5, 100, 47, 55, 4, 42, 89, 180, 1, 125, 4, 100, 181, 1, 125, 27] i := wB_of (by decide +kernel)
theorem d_MO_works_0 : decode b_MO_works 0 = .ok (.aload_n 0, 1) := dc_42 (q0_win (r := 0) wn_MO_works_0 (by decide +kernel))
theorem d_MO_works_1 : decode b_MO_works 1 = .ok (.getfield 109, 3) := dc_180 (qU2_win (r := 1) wn_MO_works_0 (by decide +kernel))
theorem d_MO_works_4 : decode b_MO_works 4 = .ok (.aload_n 0, 1) := dc_42 (q0_win (r := 4) wn_MO_works_0 (by decide +kernel))
theorem d_MO_works_5 : decode b_MO_works 5 = .ok (.getfield 381, 3) := dc_180 (qU2_win (r := 5) wn_MO_works_0 (by decide +kernel))
theorem d_MO_works_8 : decode b_MO_works 8 = .ok (.iconst 1, 1) := dc_4 (q0_win (r := 8) wn_MO_works_0 (by decide +kernel))
theorem d_MO_works_9 : decode b_MO_works 9 = .ok (.isub, 1) := dc_100 (q0_win (r := 9) wn_MO_works_0 (by decide +kernel))
theorem d_MO_works_10 : decode b_MO_works 10 = .ok (.laload, 1) := dc_47 (q0_win (r := 10) wn_MO_works_0 (by decide +kernel))
theorem d_MO_works_11 : decode b_MO_works 11 = .ok (.lstore_n 2, 1) := dc_65 (q0_win (r := 11) wn_MO_works_0 (by decide +kernel))
theorem d_MO_works_12 : decode b_MO_works 12 = .ok (.iload_n 1, 1) := dc_27 (q0_win (r := 12) wn_MO_works_0 (by decide +kernel))
theorem d_MO_works_13 : decode b_MO_works 13 = .ok (.sipush 260, 3) := dc_17 (qS2_win (r := 13) wn_MO_works_0 (by decide +kernel))
theorem d_MO_works_16 : decode b_MO_works 16 = .ok (.if_icmp .ne 30, 3) := dc_160 (qS2_win (r := 16) wn_MO_works_0 (by decide +kernel))
theorem d_MO_works_19 : decode b_MO_works 19 = .ok (.aload_n 0, 1) := dc_42 (q0_win (r := 19) wn_MO_works_0 (by decide +kernel))
theorem d_MO_works_20 : decode b_MO_works 20 = .ok (.getfield 109, 3) := dc_180 (qU2_win (r := 20) wn_MO_works_0 (by decide +kernel))
theorem d_MO_works_23 : decode b_MO_works 23 = .ok (.aload_n 0, 1) := dc_42 (q0_win (r := 23) wn_MO_works_0 (by decide +kernel))
theorem d_MO_works_24 : decode b_MO_works 24 = .ok (.getfield 381, 3) := dc_180 (qU2_win (r := 24) wn_MO_works_0 (by decide +kernel))
theorem d_MO_works_27 : decode b_MO_works 27 = .ok (.iconst 1, 1) := dc_4 (q0_win (r := 27) wn_MO_works_0 (by decide +kernel))
theorem d_MO_works_28 : decode b_MO_works 28 = .ok (.isub, 1) := dc_100 (q0_win (r := 28) wn_MO_works_0 (by decide +kernel))
theorem d_MO_works_29 : decode b_MO_works 29 = .ok (.lload_n 2, 1) := dc_32 (q0_win (r := 29) wn_MO_works_0 (by decide +kernel))
theorem d_MO_works_30 : decode b_MO_works 30 = .ok (.lconst 0, 1) := dc_9 (q0_win (r := 30) wn_MO_works_0 (by decide +kernel))
theorem d_MO_works_31 : decode b_MO_works 31 = .ok (.lcmp, 1) := dc_148 (q0_win (r := 31) wn_MO_works_0 (by decide +kernel))
theorem d_MO_works_32 : decode b_MO_works 32 = .ok (.ifCond .ne 7, 3) := dc_154 (qS2_win (r := 32) wn_MO_works_0 (by decide +kernel))
theorem d_MO_works_35 : decode b_MO_works 35 = .ok (.iconst 1, 1) := dc_4 (q0_win (r := 35) wn_MO_works_0 (by decide +kernel))
theorem d_MO_works_36 : decode b_MO_works 36 = .ok (.goto 4, 3) := dc_167 (qS2_win (r := 36) wn_MO_works_0 (by decide +kernel))
theorem d_MO_works_39 : decode b_MO_works 39 = .ok (.iconst 0, 1) := dc_3 (q0_win (r := 39) wn_MO_works_0 (by decide +kernel))
theorem d_MO_works_40 : decode b_MO_works 40 = .ok (.invokestatic 384, 3) := dc_184 (qU2_win (r := 40) wn_MO_works_0 (by decide +kernel))
theorem d_MO_works_43 : decode b_MO_works 43 = .ok (.lastore, 1) := dc_80 (q0_win (r := 43) wn_MO_works_0 (by decide +kernel))
theorem d_MO_works_44 : decode b_MO_works 44 = .ok (.iconst 1, 1) := dc_4 (q0_win (r := 44) wn_MO_works_0 (by decide +kernel))
theorem d_MO_works_45 : decode b_MO_works 45 = .ok (.ireturn, 1) := dc_172 (q0_win (r := 45) wn_MO_works_0 (by decide +kernel))
theorem d_MO_works_46 : decode b_MO_works 46 = .ok (.aload_n 0, 1) := dc_42 (q0_win (r := 46) wn_MO_works_0 (by decide +kernel))
theorem d_MO_works_47 : decode b_MO_works 47 = .ok (.getfield 109, 3) := dc_180 (qU2_win (r := 47) wn_MO_works_0 (by decide +kernel))
theorem d_MO_works_50 : decode b_MO_works 50 = .ok (.aload_n 0, 1) := dc_42 (q0_win (r := 50) wn_MO_works_0 (by decide +kernel))
theorem d_MO_works_51 : decode b_MO_works 51 = .ok (.getfield 381, 3) := dc_180 (qU2_win (r := 51) wn_MO_works_0 (by decide +kernel))
theorem d_MO_works_54 : decode b_MO_works 54 = .ok (.iconst 2, 1) := dc_5 (q0_win (r := 54) wn_MO_works_0 (by decide +kernel))
theorem d_MO_works_55 : decode b_MO_works 55 = .ok (.isub, 1) := dc_100 (q0_win (r := 55) wn_MO_works_0 (by decide +kernel))
theorem d_MO_works_56 : decode b_MO_works 56 = .ok (.laload, 1) := dc_47 (q0_win (r := 56) wn_MO_works_0 (by decide +kernel))
theorem d_MO_works_57 : decode b_MO_works 57 = .ok (.lstore 4, 2) := dc_55 (qU1_win (r := 57) wn_MO_works_0 (by decide +kernel))
theorem d_MO_works_59 : decode b_MO_works 59 = .ok (.aload_n 0, 1) := dc_42 (q0_win (r := 59) wn_MO_works_0 (by decide +kernel))
theorem d_MO_works_60 : decode b_MO_works 60 = .ok (.dup, 1) := dc_89 (q0_win (r := 60) wn_MO_works_0 (by decide +kernel))
theorem d_MO_works_61 : decode b_MO_works 61 = .ok (.getfield 381, 3) := dc_180 (qU2_win (r := 61) wn_MO_works_0 (by decide +kernel))
theorem d_MO_works_64 : decode b_MO_works 64 = .ok (.iconst 1, 1) := dc_4 (q0_win (r := 64) wn_MO_works_0 (by decide +kernel))
theorem d_MO_works_65 : decode b_MO_works 65 = .ok (.isub, 1) := dc_100 (q0_win (r := 65) wn_MO_works_0 (by decide +kernel))
theorem d_MO_works_66 : decode b_MO_works 66 = .ok (.putfield 381, 3) := dc_181 (qU2_win (r := 66) wn_MO_works_0 (by decide +kernel))
theorem d_MO_works_69 : decode b_MO_works 69 = .ok (.iload_n 1, 1) := dc_27 (q0_win (r := 69) wn_MO_works_0 (by decide +kernel))
theorem d_MO_works_70 : decode b_MO_works 70 = .ok (.lookupswitch 314 #[(42, 116), (43, 98), (45, 107), (47, 151), (60, 168), (61, 208), (62, 188), (256, 228), (257, 268), (258, 248), (261, 288)], 98) := by decide +kernel
theorem wn_MO_works_168 : ∀ i, i < 94 → bA b_MO_works (168 + i) = wB [22, 4, 32, 97, 55, 6, 167, 0, 233, 22, 4, 32, 101, 55, 6, 167, 0, 224, 22, 4, 9, 148, 153, 0, 22, 32, 184, 1, 132, 20, 1, 138, 22, 4, 184, 1, 132, 109, 148, 158, 0, 5, 3, 172, 22, 4, 32, 105, 55, 6, 167, 0, 189, 32, 9, 148, 154, 0, 5, 3, 172, 22, 4, 32, 109, 55, 6, 167, 0, 172, 22, 4, 32, 148, 156, 0, 7, 4, 167, 0, 4, 3, 184, 1, 128, 55, 6, 167, 0, 152, 22, 4, 32, 148] i := wB_of (by decide +kernel)
theorem d_MO_works_168 : decode b_MO_works 168 = .ok (.lload 4, 2) := dc_22 (qU1_win (r := 0) wn_MO_works_168 (by decide +kernel))
theorem d_MO_works_170 : decode b_MO_works 170 = .ok (.lload_n 2, 1) := dc_32 (q0_win (r := 2) wn_MO_works_168 (by decide +kernel))
theorem d_MO_works_171 : decode b_MO_works 171 = .ok (.ladd, 1) := dc_97 (q0_win (r := 3) wn_MO_works_168 (by decide +kernel))
theorem d_MO_works_172 : decode b_MO_works 172 = .ok (.lstore 6, 2) := dc_55 (qU1_win (r := 4) wn_MO_works_168 (by decide +kernel))
theorem d_MO_works_174 : decode b_MO_works 174 = .ok (.goto 233, 3) := dc_167 (qS2_win (r := 6) wn_MO_works_168 (by decide +kernel))
theorem d_MO_works_177 : decode b_MO_works 177 = .ok (.lload 4, 2) := dc_22 (qU1_win (r := 9) wn_MO_works_168 (by decide +kernel))
theorem d_MO_works_179 : decode b_MO_works 179 = .ok (.lload_n 2, 1) := dc_32 (q0_win (r := 11) wn_MO_works_168 (by decide +kernel))
theorem d_MO_works_180 : decode b_MO_works 180 = .ok (.lsub, 1) := dc_101 (q0_win (r := 12) wn_MO_works_168 (by decide +kernel))
theorem d_MO_works_181 : decode b_MO_works 181 = .ok (.lstore 6, 2) := dc_55 (qU1_win (r := 13) wn_MO_works_168 (by decide +kernel))
theorem d_MO_works_183 : decode b_MO_works 183 = .ok (.goto 224, 3) := dc_167 (qS2_win (r := 15) wn_MO_works_168 (by decide +kernel))
theorem d_MO_works_186 : decode b_MO_works 186 = .ok (.lload 4, 2) := dc_22 (qU1_win (r := 18) wn_MO_works_168 (by decide +kernel))
theorem d_MO_works_188 : decode b_MO_works 188 = .ok (.lconst 0, 1) := dc_9 (q0_win (r := 20) wn_MO_works_168 (by decide +kernel))
theorem d_MO_works_189 : decode b_MO_works 189 = .ok (.lcmp, 1) := dc_148 (q0_win (r := 21) wn_MO_works_168 (by decide +kernel))
theorem d_MO_works_190 : decode b_MO_works 190 = .ok (.ifCond .eq 22, 3) := dc_153 (qS2_win (r := 22) wn_MO_works_168 (by decide +kernel))
theorem d_MO_works_193 : decode b_MO_works 193 = .ok (.lload_n 2, 1) := dc_32 (q0_win (r := 25) wn_MO_works_168 (by decide +kernel))
theorem d_MO_works_194 : decode b_MO_works 194 = .ok (.invokestatic 388, 3) := dc_184 (qU2_win (r := 26) wn_MO_works_168 (by decide +kernel))
theorem d_MO_works_197 : decode b_MO_works 197 = .ok (.ldc2_w 394, 3) := dc_20 (qU2_win (r := 29) wn_MO_works_168 (by decide +kernel))
theorem d_MO_works_200 : decode b_MO_works 200 = .ok (.lload 4, 2) := dc_22 (qU1_win (r := 32) wn_MO_works_168 (by decide +kernel))
theorem d_MO_works_202 : decode b_MO_works 202 = .ok (.invokestatic 388, 3) := dc_184 (qU2_win (r := 34) wn_MO_works_168 (by decide +kernel))
theorem d_MO_works_205 : decode b_MO_works 205 = .ok (.ldiv, 1) := dc_109 (q0_win (r := 37) wn_MO_works_168 (by decide +kernel))
theorem d_MO_works_206 : decode b_MO_works 206 = .ok (.lcmp, 1) := dc_148 (q0_win (r := 38) wn_MO_works_168 (by decide +kernel))
theorem d_MO_works_207 : decode b_MO_works 207 = .ok (.ifCond .le 5, 3) := dc_158 (qS2_win (r := 39) wn_MO_works_168 (by decide +kernel))
theorem d_MO_works_210 : decode b_MO_works 210 = .ok (.iconst 0, 1) := dc_3 (q0_win (r := 42) wn_MO_works_168 (by decide +kernel))
theorem d_MO_works_211 : decode b_MO_works 211 = .ok (.ireturn, 1) := dc_172 (q0_win (r := 43) wn_MO_works_168 (by decide +kernel))
theorem d_MO_works_212 : decode b_MO_works 212 = .ok (.lload 4, 2) := dc_22 (qU1_win (r := 44) wn_MO_works_168 (by decide +kernel))
theorem d_MO_works_214 : decode b_MO_works 214 = .ok (.lload_n 2, 1) := dc_32 (q0_win (r := 46) wn_MO_works_168 (by decide +kernel))
theorem d_MO_works_215 : decode b_MO_works 215 = .ok (.lmul, 1) := dc_105 (q0_win (r := 47) wn_MO_works_168 (by decide +kernel))
theorem d_MO_works_216 : decode b_MO_works 216 = .ok (.lstore 6, 2) := dc_55 (qU1_win (r := 48) wn_MO_works_168 (by decide +kernel))
theorem d_MO_works_218 : decode b_MO_works 218 = .ok (.goto 189, 3) := dc_167 (qS2_win (r := 50) wn_MO_works_168 (by decide +kernel))
theorem d_MO_works_221 : decode b_MO_works 221 = .ok (.lload_n 2, 1) := dc_32 (q0_win (r := 53) wn_MO_works_168 (by decide +kernel))
theorem d_MO_works_222 : decode b_MO_works 222 = .ok (.lconst 0, 1) := dc_9 (q0_win (r := 54) wn_MO_works_168 (by decide +kernel))
theorem d_MO_works_223 : decode b_MO_works 223 = .ok (.lcmp, 1) := dc_148 (q0_win (r := 55) wn_MO_works_168 (by decide +kernel))
theorem d_MO_works_224 : decode b_MO_works 224 = .ok (.ifCond .ne 5, 3) := dc_154 (qS2_win (r := 56) wn_MO_works_168 (by decide +kernel))
theorem d_MO_works_227 : decode b_MO_works 227 = .ok (.iconst 0, 1) := dc_3 (q0_win (r := 59) wn_MO_works_168 (by decide +kernel))
theorem d_MO_works_228 : decode b_MO_works 228 = .ok (.ireturn, 1) := dc_172 (q0_win (r := 60) wn_MO_works_168 (by decide +kernel))
theorem d_MO_works_229 : decode b_MO_works 229 = .ok (.lload 4, 2) := dc_22 (qU1_win (r := 61) wn_MO_works_168 (by decide +kernel))
theorem d_MO_works_231 : decode b_MO_works 231 = .ok (.lload_n 2, 1) := dc_32 (q0_win (r := 63) wn_MO_works_168 (by decide +kernel))
theorem d_MO_works_232 : decode b_MO_works 232 = .ok (.ldiv, 1) := dc_109 (q0_win (r := 64) wn_MO_works_168 (by decide +kernel))
theorem d_MO_works_233 : decode b_MO_works 233 = .ok (.lstore 6, 2) := dc_55 (qU1_win (r := 65) wn_MO_works_168 (by decide +kernel))
theorem d_MO_works_235 : decode b_MO_works 235 = .ok (.goto 172, 3) := dc_167 (qS2_win (r := 67) wn_MO_works_168 (by decide +kernel))
theorem d_MO_works_238 : decode b_MO_works 238 = .ok (.lload 4, 2) := dc_22 (qU1_win (r := 70) wn_MO_works_168 (by decide +kernel))
theorem d_MO_works_240 : decode b_MO_works 240 = .ok (.lload_n 2, 1) := dc_32 (q0_win (r := 72) wn_MO_works_168 (by decide +kernel))
theorem d_MO_works_241 : decode b_MO_works 241 = .ok (.lcmp, 1) := dc_148 (q0_win (r := 73) wn_MO_works_168 (by decide +kernel))
theorem d_MO_works_242 : decode b_MO_works 242 = .ok (.ifCond .ge 7, 3) := dc_156 (qS2_win (r := 74) wn_MO_works_168 (by decide +kernel))
theorem d_MO_works_245 : decode b_MO_works 245 = .ok (.iconst 1, 1) := dc_4 (q0_win (r := 77) wn_MO_works_168 (by decide +kernel))
theorem d_MO_works_246 : decode b_MO_works 246 = .ok (.goto 4, 3) := dc_167 (qS2_win (r := 78) wn_MO_works_168 (by decide +kernel))
theorem d_MO_works_249 : decode b_MO_works 249 = .ok (.iconst 0, 1) := dc_3 (q0_win (r := 81) wn_MO_works_168 (by decide +kernel))
theorem d_MO_works_250 : decode b_MO_works 250 = .ok (.invokestatic 384, 3) := dc_184 (qU2_win (r := 82) wn_MO_works_168 (by decide +kernel))
theorem d_MO_works_253 : decode b_MO_works 253 = .ok (.lstore 6, 2) := dc_55 (qU1_win (r := 85) wn_MO_works_168 (by decide +kernel))
theorem d_MO_works_255 : decode b_MO_works 255 = .ok (.goto 152, 3) := dc_167 (qS2_win (r := 87) wn_MO_works_168 (by decide +kernel))
theorem d_MO_works_258 : decode b_MO_works 258 = .ok (.lload 4, 2) := dc_22 (qU1_win (r := 90) wn_MO_works_168 (by decide +kernel))
theorem d_MO_works_260 : decode b_MO_works 260 = .ok (.lload_n 2, 1) := dc_32 (q0_win (r := 92) wn_MO_works_168 (by decide +kernel))
theorem d_MO_works_261 : decode b_MO_works 261 = .ok (.lcmp, 1) := dc_148 (q0_win (r := 93) wn_MO_works_168 (by decide +kernel))
theorem wn_MO_works_262 : ∀ i, i < 96 → bA b_MO_works (262 + i) = wB [158, 0, 7, 4, 167, 0, 4, 3, 184, 1, 128, 55, 6, 167, 0, 132, 22, 4, 32, 148, 154, 0, 7, 4, 167, 0, 4, 3, 184, 1, 128, 55, 6, 167, 0, 112, 22, 4, 32, 148, 157, 0, 7, 4, 167, 0, 4, 3, 184, 1, 128, 55, 6, 167, 0, 92, 22, 4, 32, 148, 155, 0, 7, 4, 167, 0, 4, 3, 184, 1, 128, 55, 6, 167, 0, 72, 22, 4, 32, 148, 153, 0, 7, 4, 167, 0, 4, 3, 184, 1, 128, 55, 6, 167, 0, 52] i := wB_of (by decide +kernel)
theorem d_MO_works_262 : decode b_MO_works 262 = .ok (.ifCond .le 7, 3) := dc_158 (qS2_win (r := 0) wn_MO_works_262 (by decide +kernel))
theorem d_MO_works_265 : decode b_MO_works 265 = .ok (.iconst 1, 1) := dc_4 (q0_win (r := 3) wn_MO_works_262 (by decide +kernel))
theorem d_MO_works_266 : decode b_MO_works 266 = .ok (.goto 4, 3) := dc_167 (qS2_win (r := 4) wn_MO_works_262 (by decide +kernel))
theorem d_MO_works_269 : decode b_MO_works 269 = .ok (.iconst 0, 1) := dc_3 (q0_win (r := 7) wn_MO_works_262 (by decide +kernel))
theorem d_MO_works_270 : decode b_MO_works 270 = .ok (.invokestatic 384, 3) := dc_184 (qU2_win (r := 8) wn_MO_works_262 (by decide +kernel))
theorem d_MO_works_273 : decode b_MO_works 273 = .ok (.lstore 6, 2) := dc_55 (qU1_win (r := 11) wn_MO_works_262 (by decide +kernel))
theorem d_MO_works_275 : decode b_MO_works 275 = .ok (.goto 132, 3) := dc_167 (qS2_win (r := 13) wn_MO_works_262 (by decide +kernel))
theorem d_MO_works_278 : decode b_MO_works 278 = .ok (.lload 4, 2) := dc_22 (qU1_win (r := 16) wn_MO_works_262 (by decide +kernel))
theorem d_MO_works_280 : decode b_MO_works 280 = .ok (.lload_n 2, 1) := dc_32 (q0_win (r := 18) wn_MO_works_262 (by decide +kernel))
theorem d_MO_works_281 : decode b_MO_works 281 = .ok (.lcmp, 1) := dc_148 (q0_win (r := 19) wn_MO_works_262 (by decide +kernel))
theorem d_MO_works_282 : decode b_MO_works 282 = .ok (.ifCond .ne 7, 3) := dc_154 (qS2_win (r := 20) wn_MO_works_262 (by decide +kernel))
theorem d_MO_works_285 : decode b_MO_works 285 = .ok (.iconst 1, 1) := dc_4 (q0_win (r := 23) wn_MO_works_262 (by decide +kernel))
theorem d_MO_works_286 : decode b_MO_works 286 = .ok (.goto 4, 3) := dc_167 (qS2_win (r := 24) wn_MO_works_262 (by decide +kernel))
theorem d_MO_works_289 : decode b_MO_works 289 = .ok (.iconst 0, 1) := dc_3 (q0_win (r := 27) wn_MO_works_262 (by decide +kernel))
theorem d_MO_works_290 : decode b_MO_works 290 = .ok (.invokestatic 384, 3) := dc_184 (qU2_win (r := 28) wn_MO_works_262 (by decide +kernel))
theorem d_MO_works_293 : decode b_MO_works 293 = .ok (.lstore 6, 2) := dc_55 (qU1_win (r := 31) wn_MO_works_262 (by decide +kernel))
theorem d_MO_works_295 : decode b_MO_works 295 = .ok (.goto 112, 3) := dc_167 (qS2_win (r := 33) wn_MO_works_262 (by decide +kernel))
theorem d_MO_works_298 : decode b_MO_works 298 = .ok (.lload 4, 2) := dc_22 (qU1_win (r := 36) wn_MO_works_262 (by decide +kernel))
theorem d_MO_works_300 : decode b_MO_works 300 = .ok (.lload_n 2, 1) := dc_32 (q0_win (r := 38) wn_MO_works_262 (by decide +kernel))
theorem d_MO_works_301 : decode b_MO_works 301 = .ok (.lcmp, 1) := dc_148 (q0_win (r := 39) wn_MO_works_262 (by decide +kernel))
theorem d_MO_works_302 : decode b_MO_works 302 = .ok (.ifCond .gt 7, 3) := dc_157 (qS2_win (r := 40) wn_MO_works_262 (by decide +kernel))
theorem d_MO_works_305 : decode b_MO_works 305 = .ok (.iconst 1, 1) := dc_4 (q0_win (r := 43) wn_MO_works_262 (by decide +kernel))
theorem d_MO_works_306 : decode b_MO_works 306 = .ok (.goto 4, 3) := dc_167 (qS2_win (r := 44) wn_MO_works_262 (by decide +kernel))
theorem d_MO_works_309 : decode b_MO_works 309 = .ok (.iconst 0, 1) := dc_3 (q0_win (r := 47) wn_MO_works_262 (by decide +kernel))
theorem d_MO_works_310 : decode b_MO_works 310 = .ok (.invokestatic 384, 3) := dc_184 (qU2_win (r := 48) wn_MO_works_262 (by decide +kernel))
theorem d_MO_works_313 : decode b_MO_works 313 = .ok (.lstore 6, 2) := dc_55 (qU1_win (r := 51) wn_MO_works_262 (by decide +kernel))
theorem d_MO_works_315 : decode b_MO_works 315 = .ok (.goto 92, 3) := dc_167 (qS2_win (r := 53) wn_MO_works_262 (by decide +kernel))
theorem d_MO_works_318 : decode b_MO_works 318 = .ok (.lload 4, 2) := dc_22 (qU1_win (r := 56) wn_MO_works_262 (by decide +kernel))
theorem d_MO_works_320 : decode b_MO_works 320 = .ok (.lload_n 2, 1) := dc_32 (q0_win (r := 58) wn_MO_works_262 (by decide +kernel))
theorem d_MO_works_321 : decode b_MO_works 321 = .ok (.lcmp, 1) := dc_148 (q0_win (r := 59) wn_MO_works_262 (by decide +kernel))
theorem d_MO_works_322 : decode b_MO_works 322 = .ok (.ifCond .lt 7, 3) := dc_155 (qS2_win (r := 60) wn_MO_works_262 (by decide +kernel))
theorem d_MO_works_325 : decode b_MO_works 325 = .ok (.iconst 1, 1) := dc_4 (q0_win (r := 63) wn_MO_works_262 (by decide +kernel))
theorem d_MO_works_326 : decode b_MO_works 326 = .ok (.goto 4, 3) := dc_167 (qS2_win (r := 64) wn_MO_works_262 (by decide +kernel))
theorem d_MO_works_329 : decode b_MO_works 329 = .ok (.iconst 0, 1) := dc_3 (q0_win (r := 67) wn_MO_works_262 (by decide +kernel))
theorem d_MO_works_330 : decode b_MO_works 330 = .ok (.invokestatic 384, 3) := dc_184 (qU2_win (r := 68) wn_MO_works_262 (by decide +kernel))
theorem d_MO_works_333 : decode b_MO_works 333 = .ok (.lstore 6, 2) := dc_55 (qU1_win (r := 71) wn_MO_works_262 (by decide +kernel))
theorem d_MO_works_335 : decode b_MO_works 335 = .ok (.goto 72, 3) := dc_167 (qS2_win (r := 73) wn_MO_works_262 (by decide +kernel))
theorem d_MO_works_338 : decode b_MO_works 338 = .ok (.lload 4, 2) := dc_22 (qU1_win (r := 76) wn_MO_works_262 (by decide +kernel))
theorem d_MO_works_340 : decode b_MO_works 340 = .ok (.lload_n 2, 1) := dc_32 (q0_win (r := 78) wn_MO_works_262 (by decide +kernel))
theorem d_MO_works_341 : decode b_MO_works 341 = .ok (.lcmp, 1) := dc_148 (q0_win (r := 79) wn_MO_works_262 (by decide +kernel))
theorem d_MO_works_342 : decode b_MO_works 342 = .ok (.ifCond .eq 7, 3) := dc_153 (qS2_win (r := 80) wn_MO_works_262 (by decide +kernel))
theorem d_MO_works_345 : decode b_MO_works 345 = .ok (.iconst 1, 1) := dc_4 (q0_win (r := 83) wn_MO_works_262 (by decide +kernel))
theorem d_MO_works_346 : decode b_MO_works 346 = .ok (.goto 4, 3) := dc_167 (qS2_win (r := 84) wn_MO_works_262 (by decide +kernel))
theorem d_MO_works_349 : decode b_MO_works 349 = .ok (.iconst 0, 1) := dc_3 (q0_win (r := 87) wn_MO_works_262 (by decide +kernel))
theorem d_MO_works_350 : decode b_MO_works 350 = .ok (.invokestatic 384, 3) := dc_184 (qU2_win (r := 88) wn_MO_works_262 (by decide +kernel))
theorem d_MO_works_353 : decode b_MO_works 353 = .ok (.lstore 6, 2) := dc_55 (qU1_win (r := 91) wn_MO_works_262 (by decide +kernel))
theorem d_MO_works_355 : decode b_MO_works 355 = .ok (.goto 52, 3) := dc_167 (qS2_win (r := 93) wn_MO_works_262 (by decide +kernel))
theorem wn_MO_works_358 : ∀ i, i < 86 → bA b_MO_works (358 + i) = wB [22, 4, 9, 148, 153, 0, 13, 32, 9, 148, 153, 0, 7, 4, 167, 0, 4, 3, 184, 1, 128, 55, 6, 167, 0, 26, 22, 4, 9, 148, 154, 0, 9, 32, 9, 148, 153, 0, 7, 4, 167, 0, 4, 3, 184, 1, 128, 55, 6, 42, 180, 0, 109, 42, 180, 1, 125, 4, 100, 22, 6, 80, 22, 6, 20, 1, 138, 148, 157, 0, 16, 22, 6, 20, 1, 140, 148, 155, 0, 7, 4, 167, 0, 4, 3, 172] i := wB_of (by decide +kernel)
theorem d_MO_works_358 : decode b_MO_works 358 = .ok (.lload 4, 2) := dc_22 (qU1_win (r := 0) wn_MO_works_358 (by decide +kernel))
theorem d_MO_works_360 : decode b_MO_works 360 = .ok (.lconst 0, 1) := dc_9 (q0_win (r := 2) wn_MO_works_358 (by decide +kernel))
theorem d_MO_works_361 : decode b_MO_works 361 = .ok (.lcmp, 1) := dc_148 (q0_win (r := 3) wn_MO_works_358 (by decide +kernel))
theorem d_MO_works_362 : decode b_MO_works 362 = .ok (.ifCond .eq 13, 3) := dc_153 (qS2_win (r := 4) wn_MO_works_358 (by decide +kernel))
theorem d_MO_works_365 : decode b_MO_works 365 = .ok (.lload_n 2, 1) := dc_32 (q0_win (r := 7) wn_MO_works_358 (by decide +kernel))
theorem d_MO_works_366 : decode b_MO_works 366 = .ok (.lconst 0, 1) := dc_9 (q0_win (r := 8) wn_MO_works_358 (by decide +kernel))
theorem d_MO_works_367 : decode b_MO_works 367 = .ok (.lcmp, 1) := dc_148 (q0_win (r := 9) wn_MO_works_358 (by decide +kernel))
theorem d_MO_works_368 : decode b_MO_works 368 = .ok (.ifCond .eq 7, 3) := dc_153 (qS2_win (r := 10) wn_MO_works_358 (by decide +kernel))
theorem d_MO_works_371 : decode b_MO_works 371 = .ok (.iconst 1, 1) := dc_4 (q0_win (r := 13) wn_MO_works_358 (by decide +kernel))
theorem d_MO_works_372 : decode b_MO_works 372 = .ok (.goto 4, 3) := dc_167 (qS2_win (r := 14) wn_MO_works_358 (by decide +kernel))
theorem d_MO_works_375 : decode b_MO_works 375 = .ok (.iconst 0, 1) := dc_3 (q0_win (r := 17) wn_MO_works_358 (by decide +kernel))
theorem d_MO_works_376 : decode b_MO_works 376 = .ok (.invokestatic 384, 3) := dc_184 (qU2_win (r := 18) wn_MO_works_358 (by decide +kernel))
theorem d_MO_works_379 : decode b_MO_works 379 = .ok (.lstore 6, 2) := dc_55 (qU1_win (r := 21) wn_MO_works_358 (by decide +kernel))
theorem d_MO_works_381 : decode b_MO_works 381 = .ok (.goto 26, 3) := dc_167 (qS2_win (r := 23) wn_MO_works_358 (by decide +kernel))
theorem d_MO_works_384 : decode b_MO_works 384 = .ok (.lload 4, 2) := dc_22 (qU1_win (r := 26) wn_MO_works_358 (by decide +kernel))
theorem d_MO_works_386 : decode b_MO_works 386 = .ok (.lconst 0, 1) := dc_9 (q0_win (r := 28) wn_MO_works_358 (by decide +kernel))
theorem d_MO_works_387 : decode b_MO_works 387 = .ok (.lcmp, 1) := dc_148 (q0_win (r := 29) wn_MO_works_358 (by decide +kernel))
theorem d_MO_works_388 : decode b_MO_works 388 = .ok (.ifCond .ne 9, 3) := dc_154 (qS2_win (r := 30) wn_MO_works_358 (by decide +kernel))
theorem d_MO_works_391 : decode b_MO_works 391 = .ok (.lload_n 2, 1) := dc_32 (q0_win (r := 33) wn_MO_works_358 (by decide +kernel))
theorem d_MO_works_392 : decode b_MO_works 392 = .ok (.lconst 0, 1) := dc_9 (q0_win (r := 34) wn_MO_works_358 (by decide +kernel))
theorem d_MO_works_393 : decode b_MO_works 393 = .ok (.lcmp, 1) := dc_148 (q0_win (r := 35) wn_MO_works_358 (by decide +kernel))
theorem d_MO_works_394 : decode b_MO_works 394 = .ok (.ifCond .eq 7, 3) := dc_153 (qS2_win (r := 36) wn_MO_works_358 (by decide +kernel))
theorem d_MO_works_397 : decode b_MO_works 397 = .ok (.iconst 1, 1) := dc_4 (q0_win (r := 39) wn_MO_works_358 (by decide +kernel))
theorem d_MO_works_398 : decode b_MO_works 398 = .ok (.goto 4, 3) := dc_167 (qS2_win (r := 40) wn_MO_works_358 (by decide +kernel))
theorem d_MO_works_401 : decode b_MO_works 401 = .ok (.iconst 0, 1) := dc_3 (q0_win (r := 43) wn_MO_works_358 (by decide +kernel))
theorem d_MO_works_402 : decode b_MO_works 402 = .ok (.invokestatic 384, 3) := dc_184 (qU2_win (r := 44) wn_MO_works_358 (by decide +kernel))
theorem d_MO_works_405 : decode b_MO_works 405 = .ok (.lstore 6, 2) := dc_55 (qU1_win (r := 47) wn_MO_works_358 (by decide +kernel))
theorem d_MO_works_407 : decode b_MO_works 407 = .ok (.aload_n 0, 1) := dc_42 (q0_win (r := 49) wn_MO_works_358 (by decide +kernel))
theorem d_MO_works_408 : decode b_MO_works 408 = .ok (.getfield 109, 3) := dc_180 (qU2_win (r := 50) wn_MO_works_358 (by decide +kernel))
theorem d_MO_works_411 : decode b_MO_works 411 = .ok (.aload_n 0, 1) := dc_42 (q0_win (r := 53) wn_MO_works_358 (by decide +kernel))
theorem d_MO_works_412 : decode b_MO_works 412 = .ok (.getfield 381, 3) := dc_180 (qU2_win (r := 54) wn_MO_works_358 (by decide +kernel))
theorem d_MO_works_415 : decode b_MO_works 415 = .ok (.iconst 1, 1) := dc_4 (q0_win (r := 57) wn_MO_works_358 (by decide +kernel))
theorem d_MO_works_416 : decode b_MO_works 416 = .ok (.isub, 1) := dc_100 (q0_win (r := 58) wn_MO_works_358 (by decide +kernel))
theorem d_MO_works_417 : decode b_MO_works 417 = .ok (.lload 6, 2) := dc_22 (qU1_win (r := 59) wn_MO_works_358 (by decide +kernel))
theorem d_MO_works_419 : decode b_MO_works 419 = .ok (.lastore, 1) := dc_80 (q0_win (r := 61) wn_MO_works_358 (by decide +kernel))
theorem d_MO_works_420 : decode b_MO_works 420 = .ok (.lload 6, 2) := dc_22 (qU1_win (r := 62) wn_MO_works_358 (by decide +kernel))
theorem d_MO_works_422 : decode b_MO_works 422 = .ok (.ldc2_w 394, 3) := dc_20 (qU2_win (r := 64) wn_MO_works_358 (by decide +kernel))
theorem d_MO_works_425 : decode b_MO_works 425 = .ok (.lcmp, 1) := dc_148 (q0_win (r := 67) wn_MO_works_358 (by decide +kernel))
theorem d_MO_works_426 : decode b_MO_works 426 = .ok (.ifCond .gt 16, 3) := dc_157 (qS2_win (r := 68) wn_MO_works_358 (by decide +kernel))
theorem d_MO_works_429 : decode b_MO_works 429 = .ok (.lload 6, 2) := dc_22 (qU1_win (r := 71) wn_MO_works_358 (by decide +kernel))
theorem d_MO_works_431 : decode b_MO_works 431 = .ok (.ldc2_w 396, 3) := dc_20 (qU2_win (r := 73) wn_MO_works_358 (by decide +kernel))
theorem d_MO_works_434 : decode b_MO_works 434 = .ok (.lcmp, 1) := dc_148 (q0_win (r := 76) wn_MO_works_358 (by decide +kernel))
theorem d_MO_works_435 : decode b_MO_works 435 = .ok (.ifCond .lt 7, 3) := dc_155 (qS2_win (r := 77) wn_MO_works_358 (by decide +kernel))
theorem d_MO_works_438 : decode b_MO_works 438 = .ok (.iconst 1, 1) := dc_4 (q0_win (r := 80) wn_MO_works_358 (by decide +kernel))
theorem d_MO_works_439 : decode b_MO_works 439 = .ok (.goto 4, 3) := dc_167 (qS2_win (r := 81) wn_MO_works_358 (by decide +kernel))
theorem d_MO_works_442 : decode b_MO_works 442 = .ok (.iconst 0, 1) := dc_3 (q0_win (r := 84) wn_MO_works_358 (by decide +kernel))
theorem d_MO_works_443 : decode b_MO_works 443 = .ok (.ireturn, 1) := dc_172 (q0_win (r := 85) wn_MO_works_358 (by decide +kernel))
def t_MO_works_L40 (x1 : Int)  (M : Mem) (v1_ : Int) (v2_ : Int) : Option (Mem × Int) := (qlet (t_MO_is M v2_) fun q56 => (qguard (0 ≤ v1_ ∧ v1_ < 64) (qlet (setL M 221 v1_ q56) fun M59 => (some (M59, 1)))))
def t_MO_works_L407 (x1 : Int)  (M : Mem) (v1_ : Int64) : Option (Mem × Int) := (qguard (0 ≤ (w32 ((M.1 191 54) - 1)) ∧ (w32 ((M.1 191 54) - 1)) < 64) (qlet (setL M 221 (w32 ((M.1 191 54) - 1)) v1_) fun M37 => (if 1000000000000 < v1_ then (some (M37, 0)) else (if v1_ < (-1000000000000) then (some (M37, 0)) else (some (M37, 1))))))
def t_MO_works_L212 (x1 : Int)  (M : Mem) (v1_ : Int64) (v2_ : Int64) : Option (Mem × Int) := (t_MO_works_L407 x1 M (v2_ * v1_))
def t_MO_works_L250 (x1 : Int)  (M : Mem) (v1_ : Int) : Option (Mem × Int) := (qlet (t_MO_is M v1_) fun q40 => (t_MO_works_L407 x1 M q40))
def t_MO_works_L270 (x1 : Int)  (M : Mem) (v1_ : Int) : Option (Mem × Int) := (qlet (t_MO_is M v1_) fun q44 => (t_MO_works_L407 x1 M q44))
def t_MO_works_L290 (x1 : Int)  (M : Mem) (v1_ : Int) : Option (Mem × Int) := (qlet (t_MO_is M v1_) fun q42 => (t_MO_works_L407 x1 M q42))
def t_MO_works_L310 (x1 : Int)  (M : Mem) (v1_ : Int) : Option (Mem × Int) := (qlet (t_MO_is M v1_) fun q46 => (t_MO_works_L407 x1 M q46))
def t_MO_works_L330 (x1 : Int)  (M : Mem) (v1_ : Int) : Option (Mem × Int) := (qlet (t_MO_is M v1_) fun q50 => (t_MO_works_L407 x1 M q50))
def t_MO_works_L350 (x1 : Int)  (M : Mem) (v1_ : Int) : Option (Mem × Int) := (qlet (t_MO_is M v1_) fun q48 => (t_MO_works_L407 x1 M q48))
def t_MO_works_L376 (x1 : Int)  (M : Mem) (v1_ : Int) : Option (Mem × Int) := (qlet (t_MO_is M v1_) fun q52 => (t_MO_works_L407 x1 M q52))
def t_MO_works_L375 (x1 : Int)  (M : Mem)  : Option (Mem × Int) := (t_MO_works_L376 x1 M 0)
def t_MO_works_L402 (x1 : Int)  (M : Mem) (v1_ : Int) : Option (Mem × Int) := (qlet (t_MO_is M v1_) fun q54 => (t_MO_works_L407 x1 M q54))
def t_MO_works_L397 (x1 : Int)  (M : Mem)  : Option (Mem × Int) := (t_MO_works_L402 x1 M 1)
def t_MO_works (M : Mem) (x1 : Int) : Option (Mem × Int) := (qguard (0 ≤ (w32 ((M.1 191 54) - 1)) ∧ (w32 ((M.1 191 54) - 1)) < 64) (if x1 = 260 then (if (M.2 221 (w32 ((M.1 191 54) - 1))) = 0 then (t_MO_works_L40 x1 M (w32 ((M.1 191 54) - 1)) 1) else (t_MO_works_L40 x1 M (w32 ((M.1 191 54) - 1)) 0)) else (qguard (0 ≤ (w32 ((M.1 191 54) - 2)) ∧ (w32 ((M.1 191 54) - 2)) < 64) (qlet (setI M 191 54 (w32 ((M.1 191 54) - 1))) fun M7 => (if x1 = 42 then (if (M.2 221 (w32 ((M.1 191 54) - 2))) = 0 then (t_MO_works_L212 x1 M7 (M.2 221 (w32 ((M.1 191 54) - 1))) (M.2 221 (w32 ((M.1 191 54) - 2)))) else (if (q_absl (M.2 221 (w32 ((M.1 191 54) - 2)))) = 0 then none else (if (q_absl (M.2 221 (w32 ((M.1 191 54) - 1)))) ≤ (1000000000000 / (q_absl (M.2 221 (w32 ((M.1 191 54) - 2))))) then (t_MO_works_L212 x1 M7 (M.2 221 (w32 ((M.1 191 54) - 1))) (M.2 221 (w32 ((M.1 191 54) - 2)))) else (some (M7, 0))))) else (if x1 = 43 then (t_MO_works_L407 x1 M7 ((M.2 221 (w32 ((M.1 191 54) - 2))) + (M.2 221 (w32 ((M.1 191 54) - 1))))) else (if x1 = 45 then (t_MO_works_L407 x1 M7 ((M.2 221 (w32 ((M.1 191 54) - 2))) - (M.2 221 (w32 ((M.1 191 54) - 1))))) else (if x1 = 47 then (if (M.2 221 (w32 ((M.1 191 54) - 1))) = 0 then (some (M7, 0)) else (t_MO_works_L407 x1 M7 ((M.2 221 (w32 ((M.1 191 54) - 2))) / (M.2 221 (w32 ((M.1 191 54) - 1)))))) else (if x1 = 60 then (if (M.2 221 (w32 ((M.1 191 54) - 1))) ≤ (M.2 221 (w32 ((M.1 191 54) - 2))) then (t_MO_works_L250 x1 M7 0) else (t_MO_works_L250 x1 M7 1)) else (if x1 = 61 then (if (M.2 221 (w32 ((M.1 191 54) - 2))) = (M.2 221 (w32 ((M.1 191 54) - 1))) then (t_MO_works_L290 x1 M7 1) else (t_MO_works_L290 x1 M7 0)) else (if x1 = 62 then (if (M.2 221 (w32 ((M.1 191 54) - 2))) ≤ (M.2 221 (w32 ((M.1 191 54) - 1))) then (t_MO_works_L270 x1 M7 0) else (t_MO_works_L270 x1 M7 1)) else (if x1 = 256 then (if (M.2 221 (w32 ((M.1 191 54) - 1))) < (M.2 221 (w32 ((M.1 191 54) - 2))) then (t_MO_works_L310 x1 M7 0) else (t_MO_works_L310 x1 M7 1)) else (if x1 = 257 then (if (M.2 221 (w32 ((M.1 191 54) - 2))) = (M.2 221 (w32 ((M.1 191 54) - 1))) then (t_MO_works_L350 x1 M7 0) else (t_MO_works_L350 x1 M7 1)) else (if x1 = 258 then (if (M.2 221 (w32 ((M.1 191 54) - 2))) < (M.2 221 (w32 ((M.1 191 54) - 1))) then (t_MO_works_L330 x1 M7 0) else (t_MO_works_L330 x1 M7 1)) else (if x1 = 261 then (if (M.2 221 (w32 ((M.1 191 54) - 2))) = 0 then (t_MO_works_L375 x1 M7) else (if (M.2 221 (w32 ((M.1 191 54) - 1))) = 0 then (t_MO_works_L375 x1 M7) else (t_MO_works_L376 x1 M7 1))) else (if (M.2 221 (w32 ((M.1 191 54) - 2))) = 0 then (if (M.2 221 (w32 ((M.1 191 54) - 1))) = 0 then (t_MO_works_L402 x1 M7 0) else (t_MO_works_L397 x1 M7)) else (t_MO_works_L397 x1 M7)))))))))))))))))
set_option maxHeartbeats 4000000 in
set_option maxRecDepth 100000 in
theorem k_MO_works_L40 (l : Launch) {p : Program} {e : Env} {s : State} {m : MethodId} {below : List Frame} {meth : Method} {c : Code} {b n : Nat} {C : CT} (hlo : 231 ≤ n) (x1 : Int) (hx1 : InR x1) (F : Cx b p m c b_MO_works 8 s ([.ref (b + 191), vI x1] : List Value).toArray "WardFallsModel" C n 231) (hlk : meth.locks = false) (hr : meth.sig.returnType = some .boolean) {res : Mem × Int} (M : Mem) (v1_ : Int) (hv1_ : InR v1_) (v2_ : Int) (hv2_ : v2_ = 0 ∨ v2_ = 1) (H : Heap) (locs : List Loc) (ls : Array Slot) (hS : St b C n M s H locs) (hl : lv_has ls 8 []) (hT : t_MO_works_L40 x1 M v1_ v2_ = some res) : W p l e (headSpec (wsM y_MO_works b_MO_works 8 (some .boolean)) (rmD 1)).room s m ([.ref (b + 191), vI x1] : List Value).toArray below meth c H locs 0 0 (MQ below (QZ b C n res.1 res.2) ([.ref (b + 191), vI x1] : List Value).toArray s 0 0 (frb b)) (F0 m 40 ls [vI v2_, vI v1_, .ref (b + 221)]) := by
  unfold t_MO_works_L40 at hT
  obtain ⟨q56, hq56⟩ : ∃ q, q = (t_MO_is M v2_) := ⟨_, rfl⟩
  replace hT := qlet_eq hT hq56
  refine r_backL F hS (r_runS (As := [vI v2_]) F hS (c_MO_is l F.2.2.1 M v2_ (inr_z hv2_) _ hq56.symm) gs_MO_384 hd_MO_is ⟨Nat.le_of_ble_eq_true rfl, Nat.le_of_ble_eq_true rfl⟩ rfl hl.1 (Nat.le_of_ble_eq_true rfl) ⟨Nat.zero_le _, Nat.zero_le _⟩ rfl d_MO_works_40) (fun H locs hS => ?_)
  obtain ⟨⟨g58a, g58b⟩, hT⟩ := q_guard hT
  refine r_last F hS (show 221 < 231 by decide) (show shK 221 = 2 from rfl) (show shN 221 = 64 from rfl) hv1_ g58a g58b d_MO_works_43 (fun H locs hS => ?_)
  obtain ⟨M59, eM59⟩ : ∃ q, q = (setL M 221 v1_ q56) := ⟨_, rfl⟩
  replace hS : St b C n M59 s H locs := by rw [eM59]; exact hS
  replace hT := qlet_eq hT eM59
  refine r_iconst F.hx F.hb d_MO_works_44 ?_
  cases hT
  exact r_zret F hlk hr hS (Or.inr rfl) d_MO_works_45
set_option maxHeartbeats 4000000 in
set_option maxRecDepth 100000 in
theorem k_MO_works_L407 (l : Launch) {p : Program} {e : Env} {s : State} {m : MethodId} {below : List Frame} {meth : Method} {c : Code} {b n : Nat} {C : CT} (hlo : 231 ≤ n) (x1 : Int) (hx1 : InR x1) (F : Cx b p m c b_MO_works 8 s ([.ref (b + 191), vI x1] : List Value).toArray "WardFallsModel" C n 231) (hlk : meth.locks = false) (hr : meth.sig.returnType = some .boolean) {res : Mem × Int} (M : Mem) (v1_ : Int64) (H : Heap) (locs : List Loc) (ls : Array Slot) (hS : St b C n M s H locs) (hl : lv_has ls 8 [(0, .ref (b + 191)), (6, .long v1_)]) (hT : t_MO_works_L407 x1 M v1_ = some res) : W p l e (headSpec (wsM y_MO_works b_MO_works 8 (some .boolean)) (rmD 1)).room s m ([.ref (b + 191), vI x1] : List Value).toArray below meth c H locs 0 0 (MQ below (QZ b C n res.1 res.2) ([.ref (b + 191), vI x1] : List Value).toArray s 0 0 (frb b)) (F0 m 407 ls []) := by
  unfold t_MO_works_L407 at hT
  refine lv_aload_n F.hx F.hb d_MO_works_407 rfl (lv_at hl 0 rfl) ?_
  refine r_get (v := .ref (b + 221)) (N := 68) (T := T1) (j := 53) F hS (show 191 < 231 by decide) (show shK 191 = 5 from rfl) (show shN 191 = 68 from rfl) rfl (Nat.le_of_ble_eq_true rfl) ing1 mw_1442 (fv_sg rfl rfl rfl) d_MO_works_408 ?_
  refine lv_aload_n F.hx F.hb d_MO_works_411 rfl (lv_at hl 0 rfl) ?_
  refine r_get (v := vI (M.1 191 54)) (N := 68) (T := T1) (j := 54) F hS (show 191 < 231 by decide) (show shK 191 = 5 from rfl) (show shN 191 = 68 from rfl) rfl (Nat.le_of_ble_eq_true rfl) ing1 mw_1443 (fv_int rfl) d_MO_works_412 ?_
  have i35 := hS.rng 191 54
  refine r_iconst F.hx F.hb d_MO_works_415 ?_
  refine r_isub F.hx F.hb d_MO_works_416 ?_
  refine lv_lload F.hx F.hb d_MO_works_417 (lv_at hl 1 rfl) ?_
  obtain ⟨⟨g36a, g36b⟩, hT⟩ := q_guard hT
  refine r_last F hS (show 221 < 231 by decide) (show shK 221 = 2 from rfl) (show shN 221 = 64 from rfl) (inr_w32 _) g36a g36b d_MO_works_419 (fun H locs hS => ?_)
  obtain ⟨M37, eM37⟩ : ∃ q, q = (setL M 221 (w32 ((M.1 191 54) - 1)) v1_) := ⟨_, rfl⟩
  replace hS : St b C n M37 s H locs := by rw [eM37]; exact hS
  replace hT := qlet_eq hT eM37
  refine lv_lload F.hx F.hb d_MO_works_420 (lv_at hl 1 rfl) ?_
  refine lv_ldc2 (v := 1000000000000) F.hx F.hb F.hown (F.hts mw_1839) d_MO_works_422 ?_
  refine W.lcmp F.hx F.hb d_MO_works_425 ?_
  refine r_lif_gt (tgt := 442) F.hx F.hb  d_MO_works_426 (by decide) (fun c38 => ?_) (fun c38 => ?_)
  · replace hT := (if_pos c38).symm.trans hT
    refine r_iconst F.hx F.hb d_MO_works_442 ?_
    cases hT
    exact r_zret F hlk hr hS (Or.inl rfl) d_MO_works_443
  · replace hT := (if_neg c38).symm.trans hT
    refine lv_lload F.hx F.hb d_MO_works_429 (lv_at hl 1 rfl) ?_
    refine lv_ldc2 (v := (-1000000000000)) F.hx F.hb F.hown (F.hts mw_1840) d_MO_works_431 ?_
    refine W.lcmp F.hx F.hb d_MO_works_434 ?_
    refine r_lif_lt (tgt := 442) F.hx F.hb  d_MO_works_435 (by decide) (fun c39 => ?_) (fun c39 => ?_)
    · replace hT := (if_pos c39).symm.trans hT
      refine r_iconst F.hx F.hb d_MO_works_442 ?_
      cases hT
      exact r_zret F hlk hr hS (Or.inl rfl) d_MO_works_443
    · replace hT := (if_neg c39).symm.trans hT
      refine r_iconst F.hx F.hb d_MO_works_438 ?_
      refine lv_goto (tgt := 443) F.hx F.hb d_MO_works_439 (by decide) ?_
      cases hT
      exact r_zret F hlk hr hS (Or.inr rfl) d_MO_works_443
set_option maxHeartbeats 4000000 in
set_option maxRecDepth 100000 in
theorem k_MO_works_L212 (l : Launch) {p : Program} {e : Env} {s : State} {m : MethodId} {below : List Frame} {meth : Method} {c : Code} {b n : Nat} {C : CT} (hlo : 231 ≤ n) (x1 : Int) (hx1 : InR x1) (F : Cx b p m c b_MO_works 8 s ([.ref (b + 191), vI x1] : List Value).toArray "WardFallsModel" C n 231) (hlk : meth.locks = false) (hr : meth.sig.returnType = some .boolean) {res : Mem × Int} (M : Mem) (v1_ : Int64) (v2_ : Int64) (H : Heap) (locs : List Loc) (ls : Array Slot) (hS : St b C n M s H locs) (hl : lv_has ls 8 [(0, .ref (b + 191)), (2, .long v1_), (4, .long v2_)]) (hT : t_MO_works_L212 x1 M v1_ v2_ = some res) : W p l e (headSpec (wsM y_MO_works b_MO_works 8 (some .boolean)) (rmD 1)).room s m ([.ref (b + 191), vI x1] : List Value).toArray below meth c H locs 0 0 (MQ below (QZ b C n res.1 res.2) ([.ref (b + 191), vI x1] : List Value).toArray s 0 0 (frb b)) (F0 m 212 ls []) := by
  unfold t_MO_works_L212 at hT
  refine lv_lload F.hx F.hb d_MO_works_212 (lv_at hl 2 rfl) ?_
  refine lv_lload_n F.hx F.hb d_MO_works_214 rfl (lv_at hl 1 rfl) ?_
  refine lv_lmul F.hx F.hb d_MO_works_215 ?_
  refine lv_lstore (lv' := [(6, .long (v2_ * v1_)), (0, .ref (b + 191)), (2, .long v1_), (4, .long v2_)]) F.hx F.hb d_MO_works_216 hl (Nat.le_of_ble_eq_true rfl) rfl (fun ls hl => ?_)
  refine lv_goto (tgt := 407) F.hx F.hb d_MO_works_218 (by decide) ?_
  exact k_MO_works_L407 l hlo x1 hx1 F hlk hr M (v2_ * v1_) _ _ _ hS (lv_sub hl [1, 0] rfl) hT
set_option maxHeartbeats 4000000 in
set_option maxRecDepth 100000 in
theorem k_MO_works_L250 (l : Launch) {p : Program} {e : Env} {s : State} {m : MethodId} {below : List Frame} {meth : Method} {c : Code} {b n : Nat} {C : CT} (hlo : 231 ≤ n) (x1 : Int) (hx1 : InR x1) (F : Cx b p m c b_MO_works 8 s ([.ref (b + 191), vI x1] : List Value).toArray "WardFallsModel" C n 231) (hlk : meth.locks = false) (hr : meth.sig.returnType = some .boolean) {res : Mem × Int} (M : Mem) (v1_ : Int) (hv1_ : v1_ = 0 ∨ v1_ = 1) (H : Heap) (locs : List Loc) (ls : Array Slot) (hS : St b C n M s H locs) (hl : lv_has ls 8 [(0, .ref (b + 191))]) (hT : t_MO_works_L250 x1 M v1_ = some res) : W p l e (headSpec (wsM y_MO_works b_MO_works 8 (some .boolean)) (rmD 1)).room s m ([.ref (b + 191), vI x1] : List Value).toArray below meth c H locs 0 0 (MQ below (QZ b C n res.1 res.2) ([.ref (b + 191), vI x1] : List Value).toArray s 0 0 (frb b)) (F0 m 250 ls [vI v1_]) := by
  unfold t_MO_works_L250 at hT
  obtain ⟨q40, hq40⟩ : ∃ q, q = (t_MO_is M v1_) := ⟨_, rfl⟩
  replace hT := qlet_eq hT hq40
  refine r_backL F hS (r_runS (As := [vI v1_]) F hS (c_MO_is l F.2.2.1 M v1_ (inr_z hv1_) _ hq40.symm) gs_MO_384 hd_MO_is ⟨Nat.le_of_ble_eq_true rfl, Nat.le_of_ble_eq_true rfl⟩ rfl hl.1 (Nat.le_of_ble_eq_true rfl) ⟨Nat.zero_le _, Nat.zero_le _⟩ rfl d_MO_works_250) (fun H locs hS => ?_)
  refine lv_lstore (lv' := [(6, .long q40), (0, .ref (b + 191))]) F.hx F.hb d_MO_works_253 hl (Nat.le_of_ble_eq_true rfl) rfl (fun ls hl => ?_)
  refine lv_goto (tgt := 407) F.hx F.hb d_MO_works_255 (by decide) ?_
  exact k_MO_works_L407 l hlo x1 hx1 F hlk hr M q40 _ _ _ hS (lv_sub hl [1, 0] rfl) hT
set_option maxHeartbeats 4000000 in
set_option maxRecDepth 100000 in
theorem k_MO_works_L270 (l : Launch) {p : Program} {e : Env} {s : State} {m : MethodId} {below : List Frame} {meth : Method} {c : Code} {b n : Nat} {C : CT} (hlo : 231 ≤ n) (x1 : Int) (hx1 : InR x1) (F : Cx b p m c b_MO_works 8 s ([.ref (b + 191), vI x1] : List Value).toArray "WardFallsModel" C n 231) (hlk : meth.locks = false) (hr : meth.sig.returnType = some .boolean) {res : Mem × Int} (M : Mem) (v1_ : Int) (hv1_ : v1_ = 0 ∨ v1_ = 1) (H : Heap) (locs : List Loc) (ls : Array Slot) (hS : St b C n M s H locs) (hl : lv_has ls 8 [(0, .ref (b + 191))]) (hT : t_MO_works_L270 x1 M v1_ = some res) : W p l e (headSpec (wsM y_MO_works b_MO_works 8 (some .boolean)) (rmD 1)).room s m ([.ref (b + 191), vI x1] : List Value).toArray below meth c H locs 0 0 (MQ below (QZ b C n res.1 res.2) ([.ref (b + 191), vI x1] : List Value).toArray s 0 0 (frb b)) (F0 m 270 ls [vI v1_]) := by
  unfold t_MO_works_L270 at hT
  obtain ⟨q44, hq44⟩ : ∃ q, q = (t_MO_is M v1_) := ⟨_, rfl⟩
  replace hT := qlet_eq hT hq44
  refine r_backL F hS (r_runS (As := [vI v1_]) F hS (c_MO_is l F.2.2.1 M v1_ (inr_z hv1_) _ hq44.symm) gs_MO_384 hd_MO_is ⟨Nat.le_of_ble_eq_true rfl, Nat.le_of_ble_eq_true rfl⟩ rfl hl.1 (Nat.le_of_ble_eq_true rfl) ⟨Nat.zero_le _, Nat.zero_le _⟩ rfl d_MO_works_270) (fun H locs hS => ?_)
  refine lv_lstore (lv' := [(6, .long q44), (0, .ref (b + 191))]) F.hx F.hb d_MO_works_273 hl (Nat.le_of_ble_eq_true rfl) rfl (fun ls hl => ?_)
  refine lv_goto (tgt := 407) F.hx F.hb d_MO_works_275 (by decide) ?_
  exact k_MO_works_L407 l hlo x1 hx1 F hlk hr M q44 _ _ _ hS (lv_sub hl [1, 0] rfl) hT
set_option maxHeartbeats 4000000 in
set_option maxRecDepth 100000 in
theorem k_MO_works_L290 (l : Launch) {p : Program} {e : Env} {s : State} {m : MethodId} {below : List Frame} {meth : Method} {c : Code} {b n : Nat} {C : CT} (hlo : 231 ≤ n) (x1 : Int) (hx1 : InR x1) (F : Cx b p m c b_MO_works 8 s ([.ref (b + 191), vI x1] : List Value).toArray "WardFallsModel" C n 231) (hlk : meth.locks = false) (hr : meth.sig.returnType = some .boolean) {res : Mem × Int} (M : Mem) (v1_ : Int) (hv1_ : v1_ = 0 ∨ v1_ = 1) (H : Heap) (locs : List Loc) (ls : Array Slot) (hS : St b C n M s H locs) (hl : lv_has ls 8 [(0, .ref (b + 191))]) (hT : t_MO_works_L290 x1 M v1_ = some res) : W p l e (headSpec (wsM y_MO_works b_MO_works 8 (some .boolean)) (rmD 1)).room s m ([.ref (b + 191), vI x1] : List Value).toArray below meth c H locs 0 0 (MQ below (QZ b C n res.1 res.2) ([.ref (b + 191), vI x1] : List Value).toArray s 0 0 (frb b)) (F0 m 290 ls [vI v1_]) := by
  unfold t_MO_works_L290 at hT
  obtain ⟨q42, hq42⟩ : ∃ q, q = (t_MO_is M v1_) := ⟨_, rfl⟩
  replace hT := qlet_eq hT hq42
  refine r_backL F hS (r_runS (As := [vI v1_]) F hS (c_MO_is l F.2.2.1 M v1_ (inr_z hv1_) _ hq42.symm) gs_MO_384 hd_MO_is ⟨Nat.le_of_ble_eq_true rfl, Nat.le_of_ble_eq_true rfl⟩ rfl hl.1 (Nat.le_of_ble_eq_true rfl) ⟨Nat.zero_le _, Nat.zero_le _⟩ rfl d_MO_works_290) (fun H locs hS => ?_)
  refine lv_lstore (lv' := [(6, .long q42), (0, .ref (b + 191))]) F.hx F.hb d_MO_works_293 hl (Nat.le_of_ble_eq_true rfl) rfl (fun ls hl => ?_)
  refine lv_goto (tgt := 407) F.hx F.hb d_MO_works_295 (by decide) ?_
  exact k_MO_works_L407 l hlo x1 hx1 F hlk hr M q42 _ _ _ hS (lv_sub hl [1, 0] rfl) hT
set_option maxHeartbeats 4000000 in
set_option maxRecDepth 100000 in
theorem k_MO_works_L310 (l : Launch) {p : Program} {e : Env} {s : State} {m : MethodId} {below : List Frame} {meth : Method} {c : Code} {b n : Nat} {C : CT} (hlo : 231 ≤ n) (x1 : Int) (hx1 : InR x1) (F : Cx b p m c b_MO_works 8 s ([.ref (b + 191), vI x1] : List Value).toArray "WardFallsModel" C n 231) (hlk : meth.locks = false) (hr : meth.sig.returnType = some .boolean) {res : Mem × Int} (M : Mem) (v1_ : Int) (hv1_ : v1_ = 0 ∨ v1_ = 1) (H : Heap) (locs : List Loc) (ls : Array Slot) (hS : St b C n M s H locs) (hl : lv_has ls 8 [(0, .ref (b + 191))]) (hT : t_MO_works_L310 x1 M v1_ = some res) : W p l e (headSpec (wsM y_MO_works b_MO_works 8 (some .boolean)) (rmD 1)).room s m ([.ref (b + 191), vI x1] : List Value).toArray below meth c H locs 0 0 (MQ below (QZ b C n res.1 res.2) ([.ref (b + 191), vI x1] : List Value).toArray s 0 0 (frb b)) (F0 m 310 ls [vI v1_]) := by
  unfold t_MO_works_L310 at hT
  obtain ⟨q46, hq46⟩ : ∃ q, q = (t_MO_is M v1_) := ⟨_, rfl⟩
  replace hT := qlet_eq hT hq46
  refine r_backL F hS (r_runS (As := [vI v1_]) F hS (c_MO_is l F.2.2.1 M v1_ (inr_z hv1_) _ hq46.symm) gs_MO_384 hd_MO_is ⟨Nat.le_of_ble_eq_true rfl, Nat.le_of_ble_eq_true rfl⟩ rfl hl.1 (Nat.le_of_ble_eq_true rfl) ⟨Nat.zero_le _, Nat.zero_le _⟩ rfl d_MO_works_310) (fun H locs hS => ?_)
  refine lv_lstore (lv' := [(6, .long q46), (0, .ref (b + 191))]) F.hx F.hb d_MO_works_313 hl (Nat.le_of_ble_eq_true rfl) rfl (fun ls hl => ?_)
  refine lv_goto (tgt := 407) F.hx F.hb d_MO_works_315 (by decide) ?_
  exact k_MO_works_L407 l hlo x1 hx1 F hlk hr M q46 _ _ _ hS (lv_sub hl [1, 0] rfl) hT
set_option maxHeartbeats 4000000 in
set_option maxRecDepth 100000 in
theorem k_MO_works_L330 (l : Launch) {p : Program} {e : Env} {s : State} {m : MethodId} {below : List Frame} {meth : Method} {c : Code} {b n : Nat} {C : CT} (hlo : 231 ≤ n) (x1 : Int) (hx1 : InR x1) (F : Cx b p m c b_MO_works 8 s ([.ref (b + 191), vI x1] : List Value).toArray "WardFallsModel" C n 231) (hlk : meth.locks = false) (hr : meth.sig.returnType = some .boolean) {res : Mem × Int} (M : Mem) (v1_ : Int) (hv1_ : v1_ = 0 ∨ v1_ = 1) (H : Heap) (locs : List Loc) (ls : Array Slot) (hS : St b C n M s H locs) (hl : lv_has ls 8 [(0, .ref (b + 191))]) (hT : t_MO_works_L330 x1 M v1_ = some res) : W p l e (headSpec (wsM y_MO_works b_MO_works 8 (some .boolean)) (rmD 1)).room s m ([.ref (b + 191), vI x1] : List Value).toArray below meth c H locs 0 0 (MQ below (QZ b C n res.1 res.2) ([.ref (b + 191), vI x1] : List Value).toArray s 0 0 (frb b)) (F0 m 330 ls [vI v1_]) := by
  unfold t_MO_works_L330 at hT
  obtain ⟨q50, hq50⟩ : ∃ q, q = (t_MO_is M v1_) := ⟨_, rfl⟩
  replace hT := qlet_eq hT hq50
  refine r_backL F hS (r_runS (As := [vI v1_]) F hS (c_MO_is l F.2.2.1 M v1_ (inr_z hv1_) _ hq50.symm) gs_MO_384 hd_MO_is ⟨Nat.le_of_ble_eq_true rfl, Nat.le_of_ble_eq_true rfl⟩ rfl hl.1 (Nat.le_of_ble_eq_true rfl) ⟨Nat.zero_le _, Nat.zero_le _⟩ rfl d_MO_works_330) (fun H locs hS => ?_)
  refine lv_lstore (lv' := [(6, .long q50), (0, .ref (b + 191))]) F.hx F.hb d_MO_works_333 hl (Nat.le_of_ble_eq_true rfl) rfl (fun ls hl => ?_)
  refine lv_goto (tgt := 407) F.hx F.hb d_MO_works_335 (by decide) ?_
  exact k_MO_works_L407 l hlo x1 hx1 F hlk hr M q50 _ _ _ hS (lv_sub hl [1, 0] rfl) hT
set_option maxHeartbeats 4000000 in
set_option maxRecDepth 100000 in
theorem k_MO_works_L350 (l : Launch) {p : Program} {e : Env} {s : State} {m : MethodId} {below : List Frame} {meth : Method} {c : Code} {b n : Nat} {C : CT} (hlo : 231 ≤ n) (x1 : Int) (hx1 : InR x1) (F : Cx b p m c b_MO_works 8 s ([.ref (b + 191), vI x1] : List Value).toArray "WardFallsModel" C n 231) (hlk : meth.locks = false) (hr : meth.sig.returnType = some .boolean) {res : Mem × Int} (M : Mem) (v1_ : Int) (hv1_ : v1_ = 0 ∨ v1_ = 1) (H : Heap) (locs : List Loc) (ls : Array Slot) (hS : St b C n M s H locs) (hl : lv_has ls 8 [(0, .ref (b + 191))]) (hT : t_MO_works_L350 x1 M v1_ = some res) : W p l e (headSpec (wsM y_MO_works b_MO_works 8 (some .boolean)) (rmD 1)).room s m ([.ref (b + 191), vI x1] : List Value).toArray below meth c H locs 0 0 (MQ below (QZ b C n res.1 res.2) ([.ref (b + 191), vI x1] : List Value).toArray s 0 0 (frb b)) (F0 m 350 ls [vI v1_]) := by
  unfold t_MO_works_L350 at hT
  obtain ⟨q48, hq48⟩ : ∃ q, q = (t_MO_is M v1_) := ⟨_, rfl⟩
  replace hT := qlet_eq hT hq48
  refine r_backL F hS (r_runS (As := [vI v1_]) F hS (c_MO_is l F.2.2.1 M v1_ (inr_z hv1_) _ hq48.symm) gs_MO_384 hd_MO_is ⟨Nat.le_of_ble_eq_true rfl, Nat.le_of_ble_eq_true rfl⟩ rfl hl.1 (Nat.le_of_ble_eq_true rfl) ⟨Nat.zero_le _, Nat.zero_le _⟩ rfl d_MO_works_350) (fun H locs hS => ?_)
  refine lv_lstore (lv' := [(6, .long q48), (0, .ref (b + 191))]) F.hx F.hb d_MO_works_353 hl (Nat.le_of_ble_eq_true rfl) rfl (fun ls hl => ?_)
  refine lv_goto (tgt := 407) F.hx F.hb d_MO_works_355 (by decide) ?_
  exact k_MO_works_L407 l hlo x1 hx1 F hlk hr M q48 _ _ _ hS (lv_sub hl [1, 0] rfl) hT
set_option maxHeartbeats 4000000 in
set_option maxRecDepth 100000 in
theorem k_MO_works_L376 (l : Launch) {p : Program} {e : Env} {s : State} {m : MethodId} {below : List Frame} {meth : Method} {c : Code} {b n : Nat} {C : CT} (hlo : 231 ≤ n) (x1 : Int) (hx1 : InR x1) (F : Cx b p m c b_MO_works 8 s ([.ref (b + 191), vI x1] : List Value).toArray "WardFallsModel" C n 231) (hlk : meth.locks = false) (hr : meth.sig.returnType = some .boolean) {res : Mem × Int} (M : Mem) (v1_ : Int) (hv1_ : v1_ = 0 ∨ v1_ = 1) (H : Heap) (locs : List Loc) (ls : Array Slot) (hS : St b C n M s H locs) (hl : lv_has ls 8 [(0, .ref (b + 191))]) (hT : t_MO_works_L376 x1 M v1_ = some res) : W p l e (headSpec (wsM y_MO_works b_MO_works 8 (some .boolean)) (rmD 1)).room s m ([.ref (b + 191), vI x1] : List Value).toArray below meth c H locs 0 0 (MQ below (QZ b C n res.1 res.2) ([.ref (b + 191), vI x1] : List Value).toArray s 0 0 (frb b)) (F0 m 376 ls [vI v1_]) := by
  unfold t_MO_works_L376 at hT
  obtain ⟨q52, hq52⟩ : ∃ q, q = (t_MO_is M v1_) := ⟨_, rfl⟩
  replace hT := qlet_eq hT hq52
  refine r_backL F hS (r_runS (As := [vI v1_]) F hS (c_MO_is l F.2.2.1 M v1_ (inr_z hv1_) _ hq52.symm) gs_MO_384 hd_MO_is ⟨Nat.le_of_ble_eq_true rfl, Nat.le_of_ble_eq_true rfl⟩ rfl hl.1 (Nat.le_of_ble_eq_true rfl) ⟨Nat.zero_le _, Nat.zero_le _⟩ rfl d_MO_works_376) (fun H locs hS => ?_)
  refine lv_lstore (lv' := [(6, .long q52), (0, .ref (b + 191))]) F.hx F.hb d_MO_works_379 hl (Nat.le_of_ble_eq_true rfl) rfl (fun ls hl => ?_)
  refine lv_goto (tgt := 407) F.hx F.hb d_MO_works_381 (by decide) ?_
  exact k_MO_works_L407 l hlo x1 hx1 F hlk hr M q52 _ _ _ hS (lv_sub hl [1, 0] rfl) hT
set_option maxHeartbeats 4000000 in
set_option maxRecDepth 100000 in
theorem k_MO_works_L375 (l : Launch) {p : Program} {e : Env} {s : State} {m : MethodId} {below : List Frame} {meth : Method} {c : Code} {b n : Nat} {C : CT} (hlo : 231 ≤ n) (x1 : Int) (hx1 : InR x1) (F : Cx b p m c b_MO_works 8 s ([.ref (b + 191), vI x1] : List Value).toArray "WardFallsModel" C n 231) (hlk : meth.locks = false) (hr : meth.sig.returnType = some .boolean) {res : Mem × Int} (M : Mem)  (H : Heap) (locs : List Loc) (ls : Array Slot) (hS : St b C n M s H locs) (hl : lv_has ls 8 [(0, .ref (b + 191))]) (hT : t_MO_works_L375 x1 M = some res) : W p l e (headSpec (wsM y_MO_works b_MO_works 8 (some .boolean)) (rmD 1)).room s m ([.ref (b + 191), vI x1] : List Value).toArray below meth c H locs 0 0 (MQ below (QZ b C n res.1 res.2) ([.ref (b + 191), vI x1] : List Value).toArray s 0 0 (frb b)) (F0 m 375 ls []) := by
  unfold t_MO_works_L375 at hT
  refine r_iconst F.hx F.hb d_MO_works_375 ?_
  exact k_MO_works_L376 l hlo x1 hx1 F hlk hr M 0 (Or.inl rfl) _ _ _ hS (lv_sub hl [0] rfl) hT
set_option maxHeartbeats 4000000 in
set_option maxRecDepth 100000 in
theorem k_MO_works_L402 (l : Launch) {p : Program} {e : Env} {s : State} {m : MethodId} {below : List Frame} {meth : Method} {c : Code} {b n : Nat} {C : CT} (hlo : 231 ≤ n) (x1 : Int) (hx1 : InR x1) (F : Cx b p m c b_MO_works 8 s ([.ref (b + 191), vI x1] : List Value).toArray "WardFallsModel" C n 231) (hlk : meth.locks = false) (hr : meth.sig.returnType = some .boolean) {res : Mem × Int} (M : Mem) (v1_ : Int) (hv1_ : v1_ = 0 ∨ v1_ = 1) (H : Heap) (locs : List Loc) (ls : Array Slot) (hS : St b C n M s H locs) (hl : lv_has ls 8 [(0, .ref (b + 191))]) (hT : t_MO_works_L402 x1 M v1_ = some res) : W p l e (headSpec (wsM y_MO_works b_MO_works 8 (some .boolean)) (rmD 1)).room s m ([.ref (b + 191), vI x1] : List Value).toArray below meth c H locs 0 0 (MQ below (QZ b C n res.1 res.2) ([.ref (b + 191), vI x1] : List Value).toArray s 0 0 (frb b)) (F0 m 402 ls [vI v1_]) := by
  unfold t_MO_works_L402 at hT
  obtain ⟨q54, hq54⟩ : ∃ q, q = (t_MO_is M v1_) := ⟨_, rfl⟩
  replace hT := qlet_eq hT hq54
  refine r_backL F hS (r_runS (As := [vI v1_]) F hS (c_MO_is l F.2.2.1 M v1_ (inr_z hv1_) _ hq54.symm) gs_MO_384 hd_MO_is ⟨Nat.le_of_ble_eq_true rfl, Nat.le_of_ble_eq_true rfl⟩ rfl hl.1 (Nat.le_of_ble_eq_true rfl) ⟨Nat.zero_le _, Nat.zero_le _⟩ rfl d_MO_works_402) (fun H locs hS => ?_)
  refine lv_lstore (lv' := [(6, .long q54), (0, .ref (b + 191))]) F.hx F.hb d_MO_works_405 hl (Nat.le_of_ble_eq_true rfl) rfl (fun ls hl => ?_)
  exact k_MO_works_L407 l hlo x1 hx1 F hlk hr M q54 _ _ _ hS (lv_sub hl [1, 0] rfl) hT
set_option maxHeartbeats 4000000 in
set_option maxRecDepth 100000 in
theorem k_MO_works_L397 (l : Launch) {p : Program} {e : Env} {s : State} {m : MethodId} {below : List Frame} {meth : Method} {c : Code} {b n : Nat} {C : CT} (hlo : 231 ≤ n) (x1 : Int) (hx1 : InR x1) (F : Cx b p m c b_MO_works 8 s ([.ref (b + 191), vI x1] : List Value).toArray "WardFallsModel" C n 231) (hlk : meth.locks = false) (hr : meth.sig.returnType = some .boolean) {res : Mem × Int} (M : Mem)  (H : Heap) (locs : List Loc) (ls : Array Slot) (hS : St b C n M s H locs) (hl : lv_has ls 8 [(0, .ref (b + 191))]) (hT : t_MO_works_L397 x1 M = some res) : W p l e (headSpec (wsM y_MO_works b_MO_works 8 (some .boolean)) (rmD 1)).room s m ([.ref (b + 191), vI x1] : List Value).toArray below meth c H locs 0 0 (MQ below (QZ b C n res.1 res.2) ([.ref (b + 191), vI x1] : List Value).toArray s 0 0 (frb b)) (F0 m 397 ls []) := by
  unfold t_MO_works_L397 at hT
  refine r_iconst F.hx F.hb d_MO_works_397 ?_
  refine lv_goto (tgt := 402) F.hx F.hb d_MO_works_398 (by decide) ?_
  exact k_MO_works_L402 l hlo x1 hx1 F hlk hr M 1 (Or.inr rfl) _ _ _ hS (lv_sub hl [0] rfl) hT
set_option maxHeartbeats 4000000 in
set_option maxRecDepth 100000 in
theorem c_MO_works (l : Launch) {b n : Nat} {C : CT} (hlo : 231 ≤ n) (M : Mem) (x1 : Int) (hx1 : InR x1) (res : Mem × Int) (hT : t_MO_works M x1 = some res) : CM l b C n 1 y_MO_works b_MO_works 8 (some .boolean) [.ref (b + 191), vI x1] M (QZ b C n res.1 res.2) := by
  refine CM.of (lo := 231) (ow := "WardFallsModel") (by decide) rfl (Nat.le_of_ble_eq_true rfl) hlo (fun p e s m below meth c F hlk hr hS ls hl => ?_)
  have hl : lv_has ls 8 [(0, .ref (b + 191)), (1, vI x1)] := hl
  unfold t_MO_works at hT
  refine lv_aload_n F.hx F.hb d_MO_works_0 rfl (lv_at hl 0 rfl) ?_
  refine r_get (v := .ref (b + 221)) (N := 68) (T := T1) (j := 53) F hS (show 191 < 231 by decide) (show shK 191 = 5 from rfl) (show shN 191 = 68 from rfl) rfl (Nat.le_of_ble_eq_true rfl) ing1 mw_1442 (fv_sg rfl rfl rfl) d_MO_works_1 ?_
  refine lv_aload_n F.hx F.hb d_MO_works_4 rfl (lv_at hl 0 rfl) ?_
  refine r_get (v := vI (M.1 191 54)) (N := 68) (T := T1) (j := 54) F hS (show 191 < 231 by decide) (show shK 191 = 5 from rfl) (show shN 191 = 68 from rfl) rfl (Nat.le_of_ble_eq_true rfl) ing1 mw_1443 (fv_int rfl) d_MO_works_5 ?_
  have i1 := hS.rng 191 54
  refine r_iconst F.hx F.hb d_MO_works_8 ?_
  refine r_isub F.hx F.hb d_MO_works_9 ?_
  obtain ⟨⟨g2a, g2b⟩, hT⟩ := q_guard hT
  refine r_lald F hS (show 221 < 231 by decide) (show shK 221 = 2 from rfl) (show shN 221 = 64 from rfl) (inr_w32 _) g2a g2b d_MO_works_10 ?_
  refine lv_lstore_n (lv' := [(2, .long (M.2 221 (w32 ((M.1 191 54) - 1)))), (0, .ref (b + 191)), (1, vI x1)]) F.hx F.hb d_MO_works_11 rfl hl (Nat.le_of_ble_eq_true rfl) rfl (fun ls hl => ?_)
  refine lv_iload_n F.hx F.hb d_MO_works_12 rfl (lv_at hl 2 rfl) ?_
  refine r_sipush F.hx F.hb d_MO_works_13 rfl ?_
  refine r_icmp_ne (tgt := 46) F.hx F.hb hx1 (inr_c rfl) d_MO_works_16 (by decide) (fun c3 => ?_) (fun c3 => ?_)
  · replace hT := (if_neg c3).symm.trans hT
    refine lv_aload_n F.hx F.hb d_MO_works_46 rfl (lv_at hl 1 rfl) ?_
    refine r_get (v := .ref (b + 221)) (N := 68) (T := T1) (j := 53) F hS (show 191 < 231 by decide) (show shK 191 = 5 from rfl) (show shN 191 = 68 from rfl) rfl (Nat.le_of_ble_eq_true rfl) ing1 mw_1442 (fv_sg rfl rfl rfl) d_MO_works_47 ?_
    refine lv_aload_n F.hx F.hb d_MO_works_50 rfl (lv_at hl 1 rfl) ?_
    refine r_get (v := vI (M.1 191 54)) (N := 68) (T := T1) (j := 54) F hS (show 191 < 231 by decide) (show shK 191 = 5 from rfl) (show shN 191 = 68 from rfl) rfl (Nat.le_of_ble_eq_true rfl) ing1 mw_1443 (fv_int rfl) d_MO_works_51 ?_
    have i4 := hS.rng 191 54
    refine r_iconst F.hx F.hb d_MO_works_54 ?_
    refine r_isub F.hx F.hb d_MO_works_55 ?_
    obtain ⟨⟨g5a, g5b⟩, hT⟩ := q_guard hT
    refine r_lald F hS (show 221 < 231 by decide) (show shK 221 = 2 from rfl) (show shN 221 = 64 from rfl) (inr_w32 _) g5a g5b d_MO_works_56 ?_
    refine lv_lstore (lv' := [(4, .long (M.2 221 (w32 ((M.1 191 54) - 2)))), (2, .long (M.2 221 (w32 ((M.1 191 54) - 1)))), (0, .ref (b + 191)), (1, vI x1)]) F.hx F.hb d_MO_works_57 hl (Nat.le_of_ble_eq_true rfl) rfl (fun ls hl => ?_)
    refine lv_aload_n F.hx F.hb d_MO_works_59 rfl (lv_at hl 2 rfl) ?_
    refine lv_dup F.hx F.hb d_MO_works_60 rfl ?_
    refine r_get (v := vI (M.1 191 54)) (N := 68) (T := T1) (j := 54) F hS (show 191 < 231 by decide) (show shK 191 = 5 from rfl) (show shN 191 = 68 from rfl) rfl (Nat.le_of_ble_eq_true rfl) ing1 mw_1443 (fv_int rfl) d_MO_works_61 ?_
    have i6 := hS.rng 191 54
    refine r_iconst F.hx F.hb d_MO_works_64 ?_
    refine r_isub F.hx F.hb d_MO_works_65 ?_
    refine r_putI (N := 68) (T := T1) (j := 54) F hS (show 191 < 231 by decide) (show shK 191 = 5 from rfl) (show shN 191 = 68 from rfl) rfl (Nat.le_of_ble_eq_true rfl) ing1 tyok1 nm1 rfl rfl rfl rfl rfl rfl mw_1443 (inr_w32 _) d_MO_works_66 (fun H locs hS => ?_)
    obtain ⟨M7, eM7⟩ : ∃ q, q = (setI M 191 54 (w32 ((M.1 191 54) - 1))) := ⟨_, rfl⟩
    replace hS : St b C n M7 s H locs := by rw [eM7]; exact hS
    replace hT := qlet_eq hT eM7
    refine lv_iload_n F.hx F.hb d_MO_works_69 rfl (lv_at hl 3 rfl) ?_
    rcases q_ite hT with ⟨c8, hT⟩ | ⟨c8, hT⟩
    · refine r_lookup (off := 116) (tgt := 186) F.hx F.hb hx1 d_MO_works_70 (by decide) (by rw [c8] <;> rfl) (by decide) ?_
      refine lv_lload F.hx F.hb d_MO_works_186 (lv_at hl 0 rfl) ?_
      refine lv_lconst (v := 0) F.hx F.hb d_MO_works_188 rfl ?_
      refine W.lcmp F.hx F.hb d_MO_works_189 ?_
      refine r_lif_eq (tgt := 212) F.hx F.hb  d_MO_works_190 (by decide) (fun c9 => ?_) (fun c9 => ?_)
      · replace hT := (if_pos c9).symm.trans hT
        exact k_MO_works_L212 l hlo x1 hx1 F hlk hr M7 (M.2 221 (w32 ((M.1 191 54) - 1))) (M.2 221 (w32 ((M.1 191 54) - 2))) _ _ _ hS (lv_sub hl [2, 1, 0] rfl) hT
      · replace hT := (if_neg c9).symm.trans hT
        refine lv_lload_n F.hx F.hb d_MO_works_193 rfl (lv_at hl 1 rfl) ?_
        refine r_mabsl F hl.1 mw_1838 mw_916 mw_14 mw_917 ⟨Nat.le_of_ble_eq_true rfl, Nat.le_of_ble_eq_true rfl⟩ (Nat.le_of_ble_eq_true rfl) ⟨Nat.zero_le _, Nat.zero_le _⟩ d_MO_works_194 ?_
        refine lv_ldc2 (v := 1000000000000) F.hx F.hb F.hown (F.hts mw_1839) d_MO_works_197 ?_
        refine lv_lload F.hx F.hb d_MO_works_200 (lv_at hl 0 rfl) ?_
        refine r_mabsl F hl.1 mw_1838 mw_916 mw_14 mw_917 ⟨Nat.le_of_ble_eq_true rfl, Nat.le_of_ble_eq_true rfl⟩ (Nat.le_of_ble_eq_true rfl) ⟨Nat.zero_le _, Nat.zero_le _⟩ d_MO_works_202 ?_
        obtain ⟨c10, hT⟩ := q_guardn hT
        refine lv_ldiv F.hx F.hb d_MO_works_205 c10 ?_
        refine W.lcmp F.hx F.hb d_MO_works_206 ?_
        refine r_lif_le (tgt := 212) F.hx F.hb  d_MO_works_207 (by decide) (fun c11 => ?_) (fun c11 => ?_)
        · replace hT := (if_pos c11).symm.trans hT
          exact k_MO_works_L212 l hlo x1 hx1 F hlk hr M7 (M.2 221 (w32 ((M.1 191 54) - 1))) (M.2 221 (w32 ((M.1 191 54) - 2))) _ _ _ hS (lv_sub hl [2, 1, 0] rfl) hT
        · replace hT := (if_neg c11).symm.trans hT
          refine r_iconst F.hx F.hb d_MO_works_210 ?_
          cases hT
          exact r_zret F hlk hr hS (Or.inl rfl) d_MO_works_211
    ·
      rcases q_ite hT with ⟨c12, hT⟩ | ⟨c12, hT⟩
      · refine r_lookup (off := 98) (tgt := 168) F.hx F.hb hx1 d_MO_works_70 (by decide) (by rw [c12] <;> rfl) (by decide) ?_
        refine lv_lload F.hx F.hb d_MO_works_168 (lv_at hl 0 rfl) ?_
        refine lv_lload_n F.hx F.hb d_MO_works_170 rfl (lv_at hl 1 rfl) ?_
        refine lv_ladd F.hx F.hb d_MO_works_171 ?_
        refine lv_lstore (lv' := [(6, .long ((M.2 221 (w32 ((M.1 191 54) - 2))) + (M.2 221 (w32 ((M.1 191 54) - 1))))), (4, .long (M.2 221 (w32 ((M.1 191 54) - 2)))), (2, .long (M.2 221 (w32 ((M.1 191 54) - 1)))), (0, .ref (b + 191)), (1, vI x1)]) F.hx F.hb d_MO_works_172 hl (Nat.le_of_ble_eq_true rfl) rfl (fun ls hl => ?_)
        refine lv_goto (tgt := 407) F.hx F.hb d_MO_works_174 (by decide) ?_
        exact k_MO_works_L407 l hlo x1 hx1 F hlk hr M7 ((M.2 221 (w32 ((M.1 191 54) - 2))) + (M.2 221 (w32 ((M.1 191 54) - 1)))) _ _ _ hS (lv_sub hl [3, 0] rfl) hT
      ·
        rcases q_ite hT with ⟨c13, hT⟩ | ⟨c13, hT⟩
        · refine r_lookup (off := 107) (tgt := 177) F.hx F.hb hx1 d_MO_works_70 (by decide) (by rw [c13] <;> rfl) (by decide) ?_
          refine lv_lload F.hx F.hb d_MO_works_177 (lv_at hl 0 rfl) ?_
          refine lv_lload_n F.hx F.hb d_MO_works_179 rfl (lv_at hl 1 rfl) ?_
          refine lv_lsub F.hx F.hb d_MO_works_180 ?_
          refine lv_lstore (lv' := [(6, .long ((M.2 221 (w32 ((M.1 191 54) - 2))) - (M.2 221 (w32 ((M.1 191 54) - 1))))), (4, .long (M.2 221 (w32 ((M.1 191 54) - 2)))), (2, .long (M.2 221 (w32 ((M.1 191 54) - 1)))), (0, .ref (b + 191)), (1, vI x1)]) F.hx F.hb d_MO_works_181 hl (Nat.le_of_ble_eq_true rfl) rfl (fun ls hl => ?_)
          refine lv_goto (tgt := 407) F.hx F.hb d_MO_works_183 (by decide) ?_
          exact k_MO_works_L407 l hlo x1 hx1 F hlk hr M7 ((M.2 221 (w32 ((M.1 191 54) - 2))) - (M.2 221 (w32 ((M.1 191 54) - 1)))) _ _ _ hS (lv_sub hl [3, 0] rfl) hT
        ·
          rcases q_ite hT with ⟨c14, hT⟩ | ⟨c14, hT⟩
          · refine r_lookup (off := 151) (tgt := 221) F.hx F.hb hx1 d_MO_works_70 (by decide) (by rw [c14] <;> rfl) (by decide) ?_
            refine lv_lload_n F.hx F.hb d_MO_works_221 rfl (lv_at hl 1 rfl) ?_
            refine lv_lconst (v := 0) F.hx F.hb d_MO_works_222 rfl ?_
            refine W.lcmp F.hx F.hb d_MO_works_223 ?_
            refine r_lif_ne (tgt := 229) F.hx F.hb  d_MO_works_224 (by decide) (fun c15 => ?_) (fun c15 => ?_)
            · replace hT := (if_neg c15).symm.trans hT
              refine lv_lload F.hx F.hb d_MO_works_229 (lv_at hl 0 rfl) ?_
              refine lv_lload_n F.hx F.hb d_MO_works_231 rfl (lv_at hl 1 rfl) ?_
              refine lv_ldiv F.hx F.hb d_MO_works_232 c15 ?_
              refine lv_lstore (lv' := [(6, .long ((M.2 221 (w32 ((M.1 191 54) - 2))) / (M.2 221 (w32 ((M.1 191 54) - 1))))), (4, .long (M.2 221 (w32 ((M.1 191 54) - 2)))), (2, .long (M.2 221 (w32 ((M.1 191 54) - 1)))), (0, .ref (b + 191)), (1, vI x1)]) F.hx F.hb d_MO_works_233 hl (Nat.le_of_ble_eq_true rfl) rfl (fun ls hl => ?_)
              refine lv_goto (tgt := 407) F.hx F.hb d_MO_works_235 (by decide) ?_
              exact k_MO_works_L407 l hlo x1 hx1 F hlk hr M7 ((M.2 221 (w32 ((M.1 191 54) - 2))) / (M.2 221 (w32 ((M.1 191 54) - 1)))) _ _ _ hS (lv_sub hl [3, 0] rfl) hT
            · replace hT := (if_pos c15).symm.trans hT
              refine r_iconst F.hx F.hb d_MO_works_227 ?_
              cases hT
              exact r_zret F hlk hr hS (Or.inl rfl) d_MO_works_228
          ·
            rcases q_ite hT with ⟨c16, hT⟩ | ⟨c16, hT⟩
            · refine r_lookup (off := 168) (tgt := 238) F.hx F.hb hx1 d_MO_works_70 (by decide) (by rw [c16] <;> rfl) (by decide) ?_
              refine lv_lload F.hx F.hb d_MO_works_238 (lv_at hl 0 rfl) ?_
              refine lv_lload_n F.hx F.hb d_MO_works_240 rfl (lv_at hl 1 rfl) ?_
              refine W.lcmp F.hx F.hb d_MO_works_241 ?_
              refine r_lif_ge (tgt := 249) F.hx F.hb  d_MO_works_242 (by decide) (fun c17 => ?_) (fun c17 => ?_)
              · replace hT := (if_pos c17).symm.trans hT
                refine r_iconst F.hx F.hb d_MO_works_249 ?_
                exact k_MO_works_L250 l hlo x1 hx1 F hlk hr M7 0 (Or.inl rfl) _ _ _ hS (lv_sub hl [2] rfl) hT
              · replace hT := (if_neg c17).symm.trans hT
                refine r_iconst F.hx F.hb d_MO_works_245 ?_
                refine lv_goto (tgt := 250) F.hx F.hb d_MO_works_246 (by decide) ?_
                exact k_MO_works_L250 l hlo x1 hx1 F hlk hr M7 1 (Or.inr rfl) _ _ _ hS (lv_sub hl [2] rfl) hT
            ·
              rcases q_ite hT with ⟨c18, hT⟩ | ⟨c18, hT⟩
              · refine r_lookup (off := 208) (tgt := 278) F.hx F.hb hx1 d_MO_works_70 (by decide) (by rw [c18] <;> rfl) (by decide) ?_
                refine lv_lload F.hx F.hb d_MO_works_278 (lv_at hl 0 rfl) ?_
                refine lv_lload_n F.hx F.hb d_MO_works_280 rfl (lv_at hl 1 rfl) ?_
                refine W.lcmp F.hx F.hb d_MO_works_281 ?_
                refine r_lif_ne (tgt := 289) F.hx F.hb  d_MO_works_282 (by decide) (fun c19 => ?_) (fun c19 => ?_)
                · replace hT := (if_neg c19).symm.trans hT
                  refine r_iconst F.hx F.hb d_MO_works_289 ?_
                  exact k_MO_works_L290 l hlo x1 hx1 F hlk hr M7 0 (Or.inl rfl) _ _ _ hS (lv_sub hl [2] rfl) hT
                · replace hT := (if_pos c19).symm.trans hT
                  refine r_iconst F.hx F.hb d_MO_works_285 ?_
                  refine lv_goto (tgt := 290) F.hx F.hb d_MO_works_286 (by decide) ?_
                  exact k_MO_works_L290 l hlo x1 hx1 F hlk hr M7 1 (Or.inr rfl) _ _ _ hS (lv_sub hl [2] rfl) hT
              ·
                rcases q_ite hT with ⟨c20, hT⟩ | ⟨c20, hT⟩
                · refine r_lookup (off := 188) (tgt := 258) F.hx F.hb hx1 d_MO_works_70 (by decide) (by rw [c20] <;> rfl) (by decide) ?_
                  refine lv_lload F.hx F.hb d_MO_works_258 (lv_at hl 0 rfl) ?_
                  refine lv_lload_n F.hx F.hb d_MO_works_260 rfl (lv_at hl 1 rfl) ?_
                  refine W.lcmp F.hx F.hb d_MO_works_261 ?_
                  refine r_lif_le (tgt := 269) F.hx F.hb  d_MO_works_262 (by decide) (fun c21 => ?_) (fun c21 => ?_)
                  · replace hT := (if_pos c21).symm.trans hT
                    refine r_iconst F.hx F.hb d_MO_works_269 ?_
                    exact k_MO_works_L270 l hlo x1 hx1 F hlk hr M7 0 (Or.inl rfl) _ _ _ hS (lv_sub hl [2] rfl) hT
                  · replace hT := (if_neg c21).symm.trans hT
                    refine r_iconst F.hx F.hb d_MO_works_265 ?_
                    refine lv_goto (tgt := 270) F.hx F.hb d_MO_works_266 (by decide) ?_
                    exact k_MO_works_L270 l hlo x1 hx1 F hlk hr M7 1 (Or.inr rfl) _ _ _ hS (lv_sub hl [2] rfl) hT
                ·
                  rcases q_ite hT with ⟨c22, hT⟩ | ⟨c22, hT⟩
                  · refine r_lookup (off := 228) (tgt := 298) F.hx F.hb hx1 d_MO_works_70 (by decide) (by rw [c22] <;> rfl) (by decide) ?_
                    refine lv_lload F.hx F.hb d_MO_works_298 (lv_at hl 0 rfl) ?_
                    refine lv_lload_n F.hx F.hb d_MO_works_300 rfl (lv_at hl 1 rfl) ?_
                    refine W.lcmp F.hx F.hb d_MO_works_301 ?_
                    refine r_lif_gt (tgt := 309) F.hx F.hb  d_MO_works_302 (by decide) (fun c23 => ?_) (fun c23 => ?_)
                    · replace hT := (if_pos c23).symm.trans hT
                      refine r_iconst F.hx F.hb d_MO_works_309 ?_
                      exact k_MO_works_L310 l hlo x1 hx1 F hlk hr M7 0 (Or.inl rfl) _ _ _ hS (lv_sub hl [2] rfl) hT
                    · replace hT := (if_neg c23).symm.trans hT
                      refine r_iconst F.hx F.hb d_MO_works_305 ?_
                      refine lv_goto (tgt := 310) F.hx F.hb d_MO_works_306 (by decide) ?_
                      exact k_MO_works_L310 l hlo x1 hx1 F hlk hr M7 1 (Or.inr rfl) _ _ _ hS (lv_sub hl [2] rfl) hT
                  ·
                    rcases q_ite hT with ⟨c24, hT⟩ | ⟨c24, hT⟩
                    · refine r_lookup (off := 268) (tgt := 338) F.hx F.hb hx1 d_MO_works_70 (by decide) (by rw [c24] <;> rfl) (by decide) ?_
                      refine lv_lload F.hx F.hb d_MO_works_338 (lv_at hl 0 rfl) ?_
                      refine lv_lload_n F.hx F.hb d_MO_works_340 rfl (lv_at hl 1 rfl) ?_
                      refine W.lcmp F.hx F.hb d_MO_works_341 ?_
                      refine r_lif_eq (tgt := 349) F.hx F.hb  d_MO_works_342 (by decide) (fun c25 => ?_) (fun c25 => ?_)
                      · replace hT := (if_pos c25).symm.trans hT
                        refine r_iconst F.hx F.hb d_MO_works_349 ?_
                        exact k_MO_works_L350 l hlo x1 hx1 F hlk hr M7 0 (Or.inl rfl) _ _ _ hS (lv_sub hl [2] rfl) hT
                      · replace hT := (if_neg c25).symm.trans hT
                        refine r_iconst F.hx F.hb d_MO_works_345 ?_
                        refine lv_goto (tgt := 350) F.hx F.hb d_MO_works_346 (by decide) ?_
                        exact k_MO_works_L350 l hlo x1 hx1 F hlk hr M7 1 (Or.inr rfl) _ _ _ hS (lv_sub hl [2] rfl) hT
                    ·
                      rcases q_ite hT with ⟨c26, hT⟩ | ⟨c26, hT⟩
                      · refine r_lookup (off := 248) (tgt := 318) F.hx F.hb hx1 d_MO_works_70 (by decide) (by rw [c26] <;> rfl) (by decide) ?_
                        refine lv_lload F.hx F.hb d_MO_works_318 (lv_at hl 0 rfl) ?_
                        refine lv_lload_n F.hx F.hb d_MO_works_320 rfl (lv_at hl 1 rfl) ?_
                        refine W.lcmp F.hx F.hb d_MO_works_321 ?_
                        refine r_lif_lt (tgt := 329) F.hx F.hb  d_MO_works_322 (by decide) (fun c27 => ?_) (fun c27 => ?_)
                        · replace hT := (if_pos c27).symm.trans hT
                          refine r_iconst F.hx F.hb d_MO_works_329 ?_
                          exact k_MO_works_L330 l hlo x1 hx1 F hlk hr M7 0 (Or.inl rfl) _ _ _ hS (lv_sub hl [2] rfl) hT
                        · replace hT := (if_neg c27).symm.trans hT
                          refine r_iconst F.hx F.hb d_MO_works_325 ?_
                          refine lv_goto (tgt := 330) F.hx F.hb d_MO_works_326 (by decide) ?_
                          exact k_MO_works_L330 l hlo x1 hx1 F hlk hr M7 1 (Or.inr rfl) _ _ _ hS (lv_sub hl [2] rfl) hT
                      ·
                        rcases q_ite hT with ⟨c28, hT⟩ | ⟨c28, hT⟩
                        · refine r_lookup (off := 288) (tgt := 358) F.hx F.hb hx1 d_MO_works_70 (by decide) (by rw [c28] <;> rfl) (by decide) ?_
                          refine lv_lload F.hx F.hb d_MO_works_358 (lv_at hl 0 rfl) ?_
                          refine lv_lconst (v := 0) F.hx F.hb d_MO_works_360 rfl ?_
                          refine W.lcmp F.hx F.hb d_MO_works_361 ?_
                          refine r_lif_eq (tgt := 375) F.hx F.hb  d_MO_works_362 (by decide) (fun c29 => ?_) (fun c29 => ?_)
                          · replace hT := (if_pos c29).symm.trans hT
                            exact k_MO_works_L375 l hlo x1 hx1 F hlk hr M7 _ _ _ hS (lv_sub hl [2] rfl) hT
                          · replace hT := (if_neg c29).symm.trans hT
                            refine lv_lload_n F.hx F.hb d_MO_works_365 rfl (lv_at hl 1 rfl) ?_
                            refine lv_lconst (v := 0) F.hx F.hb d_MO_works_366 rfl ?_
                            refine W.lcmp F.hx F.hb d_MO_works_367 ?_
                            refine r_lif_eq (tgt := 375) F.hx F.hb  d_MO_works_368 (by decide) (fun c30 => ?_) (fun c30 => ?_)
                            · replace hT := (if_pos c30).symm.trans hT
                              exact k_MO_works_L375 l hlo x1 hx1 F hlk hr M7 _ _ _ hS (lv_sub hl [2] rfl) hT
                            · replace hT := (if_neg c30).symm.trans hT
                              refine r_iconst F.hx F.hb d_MO_works_371 ?_
                              refine lv_goto (tgt := 376) F.hx F.hb d_MO_works_372 (by decide) ?_
                              exact k_MO_works_L376 l hlo x1 hx1 F hlk hr M7 1 (Or.inr rfl) _ _ _ hS (lv_sub hl [2] rfl) hT
                        ·
                          refine r_lookup (off := 314) (tgt := 384) F.hx F.hb hx1 d_MO_works_70 (by decide) (by simp [Op.lookupswitch.offset, List.find?, q_nes c8, q_nes c12, q_nes c13, q_nes c14, q_nes c16, q_nes c18, q_nes c20, q_nes c22, q_nes c24, q_nes c26, q_nes c28]) (by decide) ?_
                          refine lv_lload F.hx F.hb d_MO_works_384 (lv_at hl 0 rfl) ?_
                          refine lv_lconst (v := 0) F.hx F.hb d_MO_works_386 rfl ?_
                          refine W.lcmp F.hx F.hb d_MO_works_387 ?_
                          refine r_lif_ne (tgt := 397) F.hx F.hb  d_MO_works_388 (by decide) (fun c31 => ?_) (fun c31 => ?_)
                          · replace hT := (if_neg c31).symm.trans hT
                            exact k_MO_works_L397 l hlo x1 hx1 F hlk hr M7 _ _ _ hS (lv_sub hl [2] rfl) hT
                          · replace hT := (if_pos c31).symm.trans hT
                            refine lv_lload_n F.hx F.hb d_MO_works_391 rfl (lv_at hl 1 rfl) ?_
                            refine lv_lconst (v := 0) F.hx F.hb d_MO_works_392 rfl ?_
                            refine W.lcmp F.hx F.hb d_MO_works_393 ?_
                            refine r_lif_eq (tgt := 401) F.hx F.hb  d_MO_works_394 (by decide) (fun c32 => ?_) (fun c32 => ?_)
                            · replace hT := (if_pos c32).symm.trans hT
                              refine r_iconst F.hx F.hb d_MO_works_401 ?_
                              exact k_MO_works_L402 l hlo x1 hx1 F hlk hr M7 0 (Or.inl rfl) _ _ _ hS (lv_sub hl [2] rfl) hT
                            · replace hT := (if_neg c32).symm.trans hT
                              exact k_MO_works_L397 l hlo x1 hx1 F hlk hr M7 _ _ _ hS (lv_sub hl [2] rfl) hT
  · replace hT := (if_pos c3).symm.trans hT
    refine lv_aload_n F.hx F.hb d_MO_works_19 rfl (lv_at hl 1 rfl) ?_
    refine r_get (v := .ref (b + 221)) (N := 68) (T := T1) (j := 53) F hS (show 191 < 231 by decide) (show shK 191 = 5 from rfl) (show shN 191 = 68 from rfl) rfl (Nat.le_of_ble_eq_true rfl) ing1 mw_1442 (fv_sg rfl rfl rfl) d_MO_works_20 ?_
    refine lv_aload_n F.hx F.hb d_MO_works_23 rfl (lv_at hl 1 rfl) ?_
    refine r_get (v := vI (M.1 191 54)) (N := 68) (T := T1) (j := 54) F hS (show 191 < 231 by decide) (show shK 191 = 5 from rfl) (show shN 191 = 68 from rfl) rfl (Nat.le_of_ble_eq_true rfl) ing1 mw_1443 (fv_int rfl) d_MO_works_24 ?_
    have i33 := hS.rng 191 54
    refine r_iconst F.hx F.hb d_MO_works_27 ?_
    refine r_isub F.hx F.hb d_MO_works_28 ?_
    refine lv_lload_n F.hx F.hb d_MO_works_29 rfl (lv_at hl 0 rfl) ?_
    refine lv_lconst (v := 0) F.hx F.hb d_MO_works_30 rfl ?_
    refine W.lcmp F.hx F.hb d_MO_works_31 ?_
    refine r_lif_ne (tgt := 39) F.hx F.hb  d_MO_works_32 (by decide) (fun c34 => ?_) (fun c34 => ?_)
    · replace hT := (if_neg c34).symm.trans hT
      refine r_iconst F.hx F.hb d_MO_works_39 ?_
      exact k_MO_works_L40 l hlo x1 hx1 F hlk hr M (w32 ((M.1 191 54) - 1)) (inr_w32 _) 0 (Or.inl rfl) _ _ _ hS (lv_sub hl [] rfl) hT
    · replace hT := (if_pos c34).symm.trans hT
      refine r_iconst F.hx F.hb d_MO_works_35 ?_
      refine lv_goto (tgt := 40) F.hx F.hb d_MO_works_36 (by decide) ?_
      exact k_MO_works_L40 l hlo x1 hx1 F hlk hr M (w32 ((M.1 191 54) - 1)) (inr_w32 _) 1 (Or.inr rfl) _ _ _ hS (lv_sub hl [] rfl) hT
theorem d_MO_goes_0 : decode b_MO_goes 0 = .ok (.aload_n 0, 1) := dc_42 (by decide +kernel)
theorem d_MO_goes_1 : decode b_MO_goes 1 = .ok (.iconst 0, 1) := dc_3 (by decide +kernel)
theorem d_MO_goes_2 : decode b_MO_goes 2 = .ok (.putfield 381, 3) := dc_181 (by decide +kernel)
theorem d_MO_goes_5 : decode b_MO_goes 5 = .ok (.aload_n 0, 1) := dc_42 (by decide +kernel)
theorem d_MO_goes_6 : decode b_MO_goes 6 = .ok (.getfield 44, 3) := dc_180 (by decide +kernel)
theorem d_MO_goes_9 : decode b_MO_goes 9 = .ok (.iload_n 1, 1) := dc_27 (by decide +kernel)
theorem d_MO_goes_10 : decode b_MO_goes 10 = .ok (.iaload, 1) := dc_46 (by decide +kernel)
theorem d_MO_goes_11 : decode b_MO_goes 11 = .ok (.istore_n 2, 1) := dc_61 (by decide +kernel)
theorem d_MO_goes_12 : decode b_MO_goes 12 = .ok (.iload_n 2, 1) := dc_28 (by decide +kernel)
theorem d_MO_goes_13 : decode b_MO_goes 13 = .ok (.aload_n 0, 1) := dc_42 (by decide +kernel)
theorem d_MO_goes_14 : decode b_MO_goes 14 = .ok (.getfield 47, 3) := dc_180 (by decide +kernel)
theorem d_MO_goes_17 : decode b_MO_goes 17 = .ok (.iload_n 1, 1) := dc_27 (by decide +kernel)
theorem d_MO_goes_18 : decode b_MO_goes 18 = .ok (.iaload, 1) := dc_46 (by decide +kernel)
theorem d_MO_goes_19 : decode b_MO_goes 19 = .ok (.if_icmp .ge 83, 3) := dc_162 (by decide +kernel)
theorem d_MO_goes_22 : decode b_MO_goes 22 = .ok (.aload_n 0, 1) := dc_42 (by decide +kernel)
theorem d_MO_goes_23 : decode b_MO_goes 23 = .ok (.getfield 50, 3) := dc_180 (by decide +kernel)
theorem d_MO_goes_26 : decode b_MO_goes 26 = .ok (.iload_n 2, 1) := dc_28 (by decide +kernel)
theorem d_MO_goes_27 : decode b_MO_goes 27 = .ok (.iaload, 1) := dc_46 (by decide +kernel)
theorem d_MO_goes_28 : decode b_MO_goes 28 = .ok (.iconst 2, 1) := dc_5 (by decide +kernel)
theorem d_MO_goes_29 : decode b_MO_goes 29 = .ok (.if_icmp .ne 18, 3) := dc_160 (by decide +kernel)
theorem d_MO_goes_32 : decode b_MO_goes 32 = .ok (.aload_n 0, 1) := dc_42 (by decide +kernel)
theorem d_MO_goes_33 : decode b_MO_goes 33 = .ok (.aload_n 0, 1) := dc_42 (by decide +kernel)
theorem d_MO_goes_34 : decode b_MO_goes 34 = .ok (.getfield 53, 3) := dc_180 (by decide +kernel)
theorem d_MO_goes_37 : decode b_MO_goes 37 = .ok (.iload_n 2, 1) := dc_28 (by decide +kernel)
theorem d_MO_goes_38 : decode b_MO_goes 38 = .ok (.iaload, 1) := dc_46 (by decide +kernel)
theorem d_MO_goes_39 : decode b_MO_goes 39 = .ok (.invokevirtual 398, 3) := dc_182 (by decide +kernel)
theorem d_MO_goes_42 : decode b_MO_goes 42 = .ok (.ifCond .ne 54, 3) := dc_154 (by decide +kernel)
theorem d_MO_goes_45 : decode b_MO_goes 45 = .ok (.iconst 0, 1) := dc_3 (by decide +kernel)
theorem d_MO_goes_46 : decode b_MO_goes 46 = .ok (.ireturn, 1) := dc_172 (by decide +kernel)
theorem d_MO_goes_47 : decode b_MO_goes 47 = .ok (.aload_n 0, 1) := dc_42 (by decide +kernel)
theorem d_MO_goes_48 : decode b_MO_goes 48 = .ok (.getfield 109, 3) := dc_180 (by decide +kernel)
theorem d_MO_goes_51 : decode b_MO_goes 51 = .ok (.aload_n 0, 1) := dc_42 (by decide +kernel)
theorem d_MO_goes_52 : decode b_MO_goes 52 = .ok (.getfield 381, 3) := dc_180 (by decide +kernel)
theorem d_MO_goes_55 : decode b_MO_goes 55 = .ok (.aload_n 0, 1) := dc_42 (by decide +kernel)
theorem d_MO_goes_56 : decode b_MO_goes 56 = .ok (.getfield 50, 3) := dc_180 (by decide +kernel)
theorem d_MO_goes_59 : decode b_MO_goes 59 = .ok (.iload_n 2, 1) := dc_28 (by decide +kernel)
theorem d_MO_goes_60 : decode b_MO_goes 60 = .ok (.iaload, 1) := dc_46 (by decide +kernel)
theorem d_MO_goes_61 : decode b_MO_goes 61 = .ok (.ifCond .ne 13, 3) := dc_154 (by decide +kernel)
theorem d_MO_goes_64 : decode b_MO_goes 64 = .ok (.aload_n 0, 1) := dc_42 (by decide +kernel)
theorem d_MO_goes_65 : decode b_MO_goes 65 = .ok (.getfield 53, 3) := dc_180 (by decide +kernel)
theorem d_MO_goes_68 : decode b_MO_goes 68 = .ok (.iload_n 2, 1) := dc_28 (by decide +kernel)
theorem d_MO_goes_69 : decode b_MO_goes 69 = .ok (.iaload, 1) := dc_46 (by decide +kernel)
theorem d_MO_goes_70 : decode b_MO_goes 70 = .ok (.i2l, 1) := dc_133 (by decide +kernel)
theorem d_MO_goes_71 : decode b_MO_goes 71 = .ok (.goto 14, 3) := dc_167 (by decide +kernel)
theorem d_MO_goes_74 : decode b_MO_goes 74 = .ok (.aload_n 0, 1) := dc_42 (by decide +kernel)
theorem d_MO_goes_75 : decode b_MO_goes 75 = .ok (.getfield 106, 3) := dc_180 (by decide +kernel)
theorem d_MO_goes_78 : decode b_MO_goes 78 = .ok (.aload_n 0, 1) := dc_42 (by decide +kernel)
theorem d_MO_goes_79 : decode b_MO_goes 79 = .ok (.getfield 53, 3) := dc_180 (by decide +kernel)
theorem d_MO_goes_82 : decode b_MO_goes 82 = .ok (.iload_n 2, 1) := dc_28 (by decide +kernel)
theorem d_MO_goes_83 : decode b_MO_goes 83 = .ok (.iaload, 1) := dc_46 (by decide +kernel)
theorem d_MO_goes_84 : decode b_MO_goes 84 = .ok (.laload, 1) := dc_47 (by decide +kernel)
theorem d_MO_goes_85 : decode b_MO_goes 85 = .ok (.lastore, 1) := dc_80 (by decide +kernel)
theorem d_MO_goes_86 : decode b_MO_goes 86 = .ok (.aload_n 0, 1) := dc_42 (by decide +kernel)
theorem d_MO_goes_87 : decode b_MO_goes 87 = .ok (.dup, 1) := dc_89 (by decide +kernel)
theorem d_MO_goes_88 : decode b_MO_goes 88 = .ok (.getfield 381, 3) := dc_180 (by decide +kernel)
theorem d_MO_goes_91 : decode b_MO_goes 91 = .ok (.iconst 1, 1) := dc_4 (by decide +kernel)
theorem d_MO_goes_92 : decode b_MO_goes 92 = .ok (.iadd, 1) := dc_96 (by decide +kernel)
theorem d_MO_goes_93 : decode b_MO_goes 93 = .ok (.putfield 381, 3) := dc_181 (by decide +kernel)
theorem d_MO_goes_96 : decode b_MO_goes 96 = .ok (.iinc 2 1, 3) := dc_132 (by decide +kernel)
theorem d_MO_goes_99 : decode b_MO_goes 99 = .ok (.goto (-87), 3) := dc_167 (by decide +kernel)
theorem d_MO_goes_102 : decode b_MO_goes 102 = .ok (.iconst 1, 1) := dc_4 (by decide +kernel)
theorem d_MO_goes_103 : decode b_MO_goes 103 = .ok (.ireturn, 1) := dc_172 (by decide +kernel)
def t_MO_goes_L96 (x1 : Int) (bk12 : Mem → Int → Option (Mem × Int)) (M : Mem) (v2_ : Int) : Option (Mem × Int) := (bk12 M (w32 (v2_ + 1)))
def t_MO_goes_L85 (x1 : Int) (bk12 : Mem → Int → Option (Mem × Int)) (M : Mem) (v2_ : Int) (v4_ : Int) (v5_ : Int64) : Option (Mem × Int) := (qguard (0 ≤ v4_ ∧ v4_ < 64) (qlet (setL M 221 v4_ v5_) fun M25 => (qlet (setI M25 191 54 (w32 ((M25.1 191 54) + 1))) fun M27 => (t_MO_goes_L96 x1 bk12 M27 v2_))))
def t_MO_goes_L12 (x1 : Int)  : Nat → Mem → Int → Option (Mem × Int)
  | 0, _, _ => none
  | fu + 1, M, v2_ => (qguard (0 ≤ x1 ∧ x1 < 4) (if (M.1 204 x1) ≤ v2_ then (some (M, 1)) else (qguard (0 ≤ v2_ ∧ v2_ < 128) (if (M.1 205 v2_) = 2 then (qguard (0 ≤ v2_ ∧ v2_ < 128) (obind (t_MO_works M (M.1 206 v2_)) fun q21 => (if (q21.2) = 0 then (some ((q21.1), 0)) else (t_MO_goes_L96 x1 (fun a0_ a1_ => t_MO_goes_L12 x1 fu a0_ a1_) (q21.1) v2_)))) else (qguard (0 ≤ v2_ ∧ v2_ < 128) (if (M.1 205 v2_) = 0 then (qguard (0 ≤ v2_ ∧ v2_ < 128) (t_MO_goes_L85 x1 (fun a0_ a1_ => t_MO_goes_L12 x1 fu a0_ a1_) M v2_ (M.1 191 54) (q_i2l (M.1 206 v2_)))) else (qguard (0 ≤ v2_ ∧ v2_ < 128) (qguard (0 ≤ (M.1 206 v2_) ∧ (M.1 206 v2_) < 7) (t_MO_goes_L85 x1 (fun a0_ a1_ => t_MO_goes_L12 x1 fu a0_ a1_) M v2_ (M.1 191 54) (M.2 220 (M.1 206 v2_)))))))))))
def t_MO_goes (M : Mem) (x1 : Int) : Option (Mem × Int) := (qlet (setI M 191 54 0) fun M1 => (qguard (0 ≤ x1 ∧ x1 < 4) (t_MO_goes_L12 x1 FU M1 (M1.1 203 x1))))
set_option maxHeartbeats 4000000 in
set_option maxRecDepth 100000 in
theorem k_MO_goes_L96 (l : Launch) {p : Program} {e : Env} {s : State} {m : MethodId} {below : List Frame} {meth : Method} {c : Code} {b n : Nat} {C : CT} (hlo : 231 ≤ n) (x1 : Int) (hx1 : InR x1) (F : Cx b p m c b_MO_goes 3 s ([.ref (b + 191), vI x1] : List Value).toArray "WardFallsModel" C n 231) (hlk : meth.locks = false) (hr : meth.sig.returnType = some .boolean) {res : Mem × Int} (bk12 : Mem → Int → Option (Mem × Int)) (hbk12 : ∀ (M : Mem) (v2_ : Int) (hv2_ : InR v2_) (H : Heap) (locs : List Loc) (ls : Array Slot), St b C n M s H locs → lv_has ls 3 [(0, .ref (b + 191)), (1, vI x1), (2, vI v2_)] → bk12 M v2_ = some res → W p l e (headSpec (wsM y_MO_goes b_MO_goes 3 (some .boolean)) (rmD 2)).room s m ([.ref (b + 191), vI x1] : List Value).toArray below meth c H locs 0 0 (MQ below (QZ b C n res.1 res.2) ([.ref (b + 191), vI x1] : List Value).toArray s 0 0 (frb b)) (F0 m 12 ls [])) (M : Mem) (v2_ : Int) (hv2_ : InR v2_) (H : Heap) (locs : List Loc) (ls : Array Slot) (hS : St b C n M s H locs) (hl : lv_has ls 3 [(0, .ref (b + 191)), (1, vI x1), (2, vI v2_)]) (hT : t_MO_goes_L96 x1 bk12 M v2_ = some res) : W p l e (headSpec (wsM y_MO_goes b_MO_goes 3 (some .boolean)) (rmD 2)).room s m ([.ref (b + 191), vI x1] : List Value).toArray below meth c H locs 0 0 (MQ below (QZ b C n res.1 res.2) ([.ref (b + 191), vI x1] : List Value).toArray s 0 0 (frb b)) (F0 m 96 ls []) := by
  unfold t_MO_goes_L96 at hT
  refine lv_iinc (v := Int32.ofInt (w32 (v2_ + 1))) (lv' := [(2, vI (w32 (v2_ + 1))), (0, .ref (b + 191)), (1, vI x1)]) F.hx F.hb d_MO_goes_96 hl (k := 2) rfl (q_of_add _ _) (Nat.le_of_ble_eq_true rfl) rfl (fun ls hl => ?_)
  refine lv_goto (tgt := 12) F.hx F.hb d_MO_goes_99 (by decide) ?_
  exact hbk12 M (w32 (v2_ + 1)) (inr_w32 _) _ _ _ hS (lv_sub hl [1, 2, 0] rfl) hT
set_option maxHeartbeats 4000000 in
set_option maxRecDepth 100000 in
theorem k_MO_goes_L85 (l : Launch) {p : Program} {e : Env} {s : State} {m : MethodId} {below : List Frame} {meth : Method} {c : Code} {b n : Nat} {C : CT} (hlo : 231 ≤ n) (x1 : Int) (hx1 : InR x1) (F : Cx b p m c b_MO_goes 3 s ([.ref (b + 191), vI x1] : List Value).toArray "WardFallsModel" C n 231) (hlk : meth.locks = false) (hr : meth.sig.returnType = some .boolean) {res : Mem × Int} (bk12 : Mem → Int → Option (Mem × Int)) (hbk12 : ∀ (M : Mem) (v2_ : Int) (hv2_ : InR v2_) (H : Heap) (locs : List Loc) (ls : Array Slot), St b C n M s H locs → lv_has ls 3 [(0, .ref (b + 191)), (1, vI x1), (2, vI v2_)] → bk12 M v2_ = some res → W p l e (headSpec (wsM y_MO_goes b_MO_goes 3 (some .boolean)) (rmD 2)).room s m ([.ref (b + 191), vI x1] : List Value).toArray below meth c H locs 0 0 (MQ below (QZ b C n res.1 res.2) ([.ref (b + 191), vI x1] : List Value).toArray s 0 0 (frb b)) (F0 m 12 ls [])) (M : Mem) (v2_ : Int) (hv2_ : InR v2_) (v4_ : Int) (hv4_ : InR v4_) (v5_ : Int64) (H : Heap) (locs : List Loc) (ls : Array Slot) (hS : St b C n M s H locs) (hl : lv_has ls 3 [(0, .ref (b + 191)), (1, vI x1), (2, vI v2_)]) (hT : t_MO_goes_L85 x1 bk12 M v2_ v4_ v5_ = some res) : W p l e (headSpec (wsM y_MO_goes b_MO_goes 3 (some .boolean)) (rmD 2)).room s m ([.ref (b + 191), vI x1] : List Value).toArray below meth c H locs 0 0 (MQ below (QZ b C n res.1 res.2) ([.ref (b + 191), vI x1] : List Value).toArray s 0 0 (frb b)) (F0 m 85 ls [.long v5_, vI v4_, .ref (b + 221)]) := by
  unfold t_MO_goes_L85 at hT
  obtain ⟨⟨g24a, g24b⟩, hT⟩ := q_guard hT
  refine r_last F hS (show 221 < 231 by decide) (show shK 221 = 2 from rfl) (show shN 221 = 64 from rfl) hv4_ g24a g24b d_MO_goes_85 (fun H locs hS => ?_)
  obtain ⟨M25, eM25⟩ : ∃ q, q = (setL M 221 v4_ v5_) := ⟨_, rfl⟩
  replace hS : St b C n M25 s H locs := by rw [eM25]; exact hS
  replace hT := qlet_eq hT eM25
  refine lv_aload_n F.hx F.hb d_MO_goes_86 rfl (lv_at hl 0 rfl) ?_
  refine lv_dup F.hx F.hb d_MO_goes_87 rfl ?_
  refine r_get (v := vI (M25.1 191 54)) (N := 68) (T := T1) (j := 54) F hS (show 191 < 231 by decide) (show shK 191 = 5 from rfl) (show shN 191 = 68 from rfl) rfl (Nat.le_of_ble_eq_true rfl) ing1 mw_1443 (fv_int rfl) d_MO_goes_88 ?_
  have i26 := hS.rng 191 54
  refine r_iconst F.hx F.hb d_MO_goes_91 ?_
  refine r_iadd F.hx F.hb d_MO_goes_92 ?_
  refine r_putI (N := 68) (T := T1) (j := 54) F hS (show 191 < 231 by decide) (show shK 191 = 5 from rfl) (show shN 191 = 68 from rfl) rfl (Nat.le_of_ble_eq_true rfl) ing1 tyok1 nm1 rfl rfl rfl rfl rfl rfl mw_1443 (inr_w32 _) d_MO_goes_93 (fun H locs hS => ?_)
  obtain ⟨M27, eM27⟩ : ∃ q, q = (setI M25 191 54 (w32 ((M25.1 191 54) + 1))) := ⟨_, rfl⟩
  replace hS : St b C n M27 s H locs := by rw [eM27]; exact hS
  replace hT := qlet_eq hT eM27
  exact k_MO_goes_L96 l hlo x1 hx1 F hlk hr bk12 hbk12 M27 v2_ hv2_ _ _ _ hS (lv_sub hl [0, 1, 2] rfl) hT
set_option maxHeartbeats 4000000 in
set_option maxRecDepth 100000 in
theorem k_MO_goes_L12 (l : Launch) {p : Program} {e : Env} {s : State} {m : MethodId} {below : List Frame} {meth : Method} {c : Code} {b n : Nat} {C : CT} (hlo : 231 ≤ n) (x1 : Int) (hx1 : InR x1) (F : Cx b p m c b_MO_goes 3 s ([.ref (b + 191), vI x1] : List Value).toArray "WardFallsModel" C n 231) (hlk : meth.locks = false) (hr : meth.sig.returnType = some .boolean) {res : Mem × Int} : ∀ (fu : Nat) (M : Mem) (v2_ : Int) (hv2_ : InR v2_) (H : Heap) (locs : List Loc) (ls : Array Slot), St b C n M s H locs → lv_has ls 3 [(0, .ref (b + 191)), (1, vI x1), (2, vI v2_)] → t_MO_goes_L12 x1 fu M v2_ = some res → W p l e (headSpec (wsM y_MO_goes b_MO_goes 3 (some .boolean)) (rmD 2)).room s m ([.ref (b + 191), vI x1] : List Value).toArray below meth c H locs 0 0 (MQ below (QZ b C n res.1 res.2) ([.ref (b + 191), vI x1] : List Value).toArray s 0 0 (frb b)) (F0 m 12 ls []) := by
  intro fu
  induction fu with
  | zero => intro M v2_ hv2_ H locs ls hS hl hT; exact absurd hT (by simp [t_MO_goes_L12])
  | succ fu ih =>
    intro M v2_ hv2_ H locs ls hS hl hT
    rw [t_MO_goes_L12] at hT
    refine lv_iload_n F.hx F.hb d_MO_goes_12 rfl (lv_at hl 2 rfl) ?_
    refine lv_aload_n F.hx F.hb d_MO_goes_13 rfl (lv_at hl 0 rfl) ?_
    refine r_get (v := .ref (b + 204)) (N := 68) (T := T1) (j := 14) F hS (show 191 < 231 by decide) (show shK 191 = 5 from rfl) (show shN 191 = 68 from rfl) rfl (Nat.le_of_ble_eq_true rfl) ing1 mw_1403 (fv_sg rfl rfl rfl) d_MO_goes_14 ?_
    refine lv_iload_n F.hx F.hb d_MO_goes_17 rfl (lv_at hl 1 rfl) ?_
    obtain ⟨⟨g4a, g4b⟩, hT⟩ := q_guard hT
    refine r_iald F hS (show 204 < 231 by decide) (show shK 204 = 0 from rfl) (show shN 204 = 4 from rfl) hx1 g4a g4b d_MO_goes_18 ?_
    have i5 := hS.rng 204 x1
    refine r_icmp_ge (tgt := 102) F.hx F.hb hv2_ i5 d_MO_goes_19 (by decide) (fun c6 => ?_) (fun c6 => ?_)
    · replace hT := (if_pos c6).symm.trans hT
      refine r_iconst F.hx F.hb d_MO_goes_102 ?_
      cases hT
      exact r_zret F hlk hr hS (Or.inr rfl) d_MO_goes_103
    · replace hT := (if_neg c6).symm.trans hT
      refine lv_aload_n F.hx F.hb d_MO_goes_22 rfl (lv_at hl 0 rfl) ?_
      refine r_get (v := .ref (b + 205)) (N := 68) (T := T1) (j := 15) F hS (show 191 < 231 by decide) (show shK 191 = 5 from rfl) (show shN 191 = 68 from rfl) rfl (Nat.le_of_ble_eq_true rfl) ing1 mw_1404 (fv_sg rfl rfl rfl) d_MO_goes_23 ?_
      refine lv_iload_n F.hx F.hb d_MO_goes_26 rfl (lv_at hl 2 rfl) ?_
      obtain ⟨⟨g7a, g7b⟩, hT⟩ := q_guard hT
      refine r_iald F hS (show 205 < 231 by decide) (show shK 205 = 0 from rfl) (show shN 205 = 128 from rfl) hv2_ g7a g7b d_MO_goes_27 ?_
      have i8 := hS.rng 205 v2_
      refine r_iconst F.hx F.hb d_MO_goes_28 ?_
      refine r_icmp_ne (tgt := 47) F.hx F.hb i8 (inr_c rfl) d_MO_goes_29 (by decide) (fun c9 => ?_) (fun c9 => ?_)
      · replace hT := (if_neg c9).symm.trans hT
        refine lv_aload_n F.hx F.hb d_MO_goes_47 rfl (lv_at hl 0 rfl) ?_
        refine r_get (v := .ref (b + 221)) (N := 68) (T := T1) (j := 53) F hS (show 191 < 231 by decide) (show shK 191 = 5 from rfl) (show shN 191 = 68 from rfl) rfl (Nat.le_of_ble_eq_true rfl) ing1 mw_1442 (fv_sg rfl rfl rfl) d_MO_goes_48 ?_
        refine lv_aload_n F.hx F.hb d_MO_goes_51 rfl (lv_at hl 0 rfl) ?_
        refine r_get (v := vI (M.1 191 54)) (N := 68) (T := T1) (j := 54) F hS (show 191 < 231 by decide) (show shK 191 = 5 from rfl) (show shN 191 = 68 from rfl) rfl (Nat.le_of_ble_eq_true rfl) ing1 mw_1443 (fv_int rfl) d_MO_goes_52 ?_
        have i10 := hS.rng 191 54
        refine lv_aload_n F.hx F.hb d_MO_goes_55 rfl (lv_at hl 0 rfl) ?_
        refine r_get (v := .ref (b + 205)) (N := 68) (T := T1) (j := 15) F hS (show 191 < 231 by decide) (show shK 191 = 5 from rfl) (show shN 191 = 68 from rfl) rfl (Nat.le_of_ble_eq_true rfl) ing1 mw_1404 (fv_sg rfl rfl rfl) d_MO_goes_56 ?_
        refine lv_iload_n F.hx F.hb d_MO_goes_59 rfl (lv_at hl 2 rfl) ?_
        obtain ⟨⟨g11a, g11b⟩, hT⟩ := q_guard hT
        refine r_iald F hS (show 205 < 231 by decide) (show shK 205 = 0 from rfl) (show shN 205 = 128 from rfl) hv2_ g11a g11b d_MO_goes_60 ?_
        have i12 := hS.rng 205 v2_
        refine r_if_ne (tgt := 74) F.hx F.hb i12 d_MO_goes_61 (by decide) (fun c13 => ?_) (fun c13 => ?_)
        · replace hT := (if_neg c13).symm.trans hT
          refine lv_aload_n F.hx F.hb d_MO_goes_74 rfl (lv_at hl 0 rfl) ?_
          refine r_get (v := .ref (b + 220)) (N := 68) (T := T1) (j := 52) F hS (show 191 < 231 by decide) (show shK 191 = 5 from rfl) (show shN 191 = 68 from rfl) rfl (Nat.le_of_ble_eq_true rfl) ing1 mw_1441 (fv_sg rfl rfl rfl) d_MO_goes_75 ?_
          refine lv_aload_n F.hx F.hb d_MO_goes_78 rfl (lv_at hl 0 rfl) ?_
          refine r_get (v := .ref (b + 206)) (N := 68) (T := T1) (j := 16) F hS (show 191 < 231 by decide) (show shK 191 = 5 from rfl) (show shN 191 = 68 from rfl) rfl (Nat.le_of_ble_eq_true rfl) ing1 mw_1405 (fv_sg rfl rfl rfl) d_MO_goes_79 ?_
          refine lv_iload_n F.hx F.hb d_MO_goes_82 rfl (lv_at hl 2 rfl) ?_
          obtain ⟨⟨g14a, g14b⟩, hT⟩ := q_guard hT
          refine r_iald F hS (show 206 < 231 by decide) (show shK 206 = 0 from rfl) (show shN 206 = 128 from rfl) hv2_ g14a g14b d_MO_goes_83 ?_
          have i15 := hS.rng 206 v2_
          obtain ⟨⟨g16a, g16b⟩, hT⟩ := q_guard hT
          refine r_lald F hS (show 220 < 231 by decide) (show shK 220 = 2 from rfl) (show shN 220 = 7 from rfl) i15 g16a g16b d_MO_goes_84 ?_
          exact k_MO_goes_L85 l hlo x1 hx1 F hlk hr (fun a0_ a1_ => t_MO_goes_L12 x1 fu a0_ a1_) ih M v2_ hv2_ (M.1 191 54) i10 (M.2 220 (M.1 206 v2_)) _ _ _ hS (lv_sub hl [0, 1, 2] rfl) hT
        · replace hT := (if_pos c13).symm.trans hT
          refine lv_aload_n F.hx F.hb d_MO_goes_64 rfl (lv_at hl 0 rfl) ?_
          refine r_get (v := .ref (b + 206)) (N := 68) (T := T1) (j := 16) F hS (show 191 < 231 by decide) (show shK 191 = 5 from rfl) (show shN 191 = 68 from rfl) rfl (Nat.le_of_ble_eq_true rfl) ing1 mw_1405 (fv_sg rfl rfl rfl) d_MO_goes_65 ?_
          refine lv_iload_n F.hx F.hb d_MO_goes_68 rfl (lv_at hl 2 rfl) ?_
          obtain ⟨⟨g17a, g17b⟩, hT⟩ := q_guard hT
          refine r_iald F hS (show 206 < 231 by decide) (show shK 206 = 0 from rfl) (show shN 206 = 128 from rfl) hv2_ g17a g17b d_MO_goes_69 ?_
          have i18 := hS.rng 206 v2_
          refine r_i2l F.hx F.hb d_MO_goes_70 ?_
          refine lv_goto (tgt := 85) F.hx F.hb d_MO_goes_71 (by decide) ?_
          exact k_MO_goes_L85 l hlo x1 hx1 F hlk hr (fun a0_ a1_ => t_MO_goes_L12 x1 fu a0_ a1_) ih M v2_ hv2_ (M.1 191 54) i10 (q_i2l (M.1 206 v2_)) _ _ _ hS (lv_sub hl [0, 1, 2] rfl) hT
      · replace hT := (if_pos c9).symm.trans hT
        refine lv_aload_n F.hx F.hb d_MO_goes_32 rfl (lv_at hl 0 rfl) ?_
        refine lv_aload_n F.hx F.hb d_MO_goes_33 rfl (lv_at hl 0 rfl) ?_
        refine r_get (v := .ref (b + 206)) (N := 68) (T := T1) (j := 16) F hS (show 191 < 231 by decide) (show shK 191 = 5 from rfl) (show shN 191 = 68 from rfl) rfl (Nat.le_of_ble_eq_true rfl) ing1 mw_1405 (fv_sg rfl rfl rfl) d_MO_goes_34 ?_
        refine lv_iload_n F.hx F.hb d_MO_goes_37 rfl (lv_at hl 2 rfl) ?_
        obtain ⟨⟨g19a, g19b⟩, hT⟩ := q_guard hT
        refine r_iald F hS (show 206 < 231 by decide) (show shK 206 = 0 from rfl) (show shN 206 = 128 from rfl) hv2_ g19a g19b d_MO_goes_38 ?_
        have i20 := hS.rng 206 v2_
        obtain ⟨q21, hq21, hT⟩ := q_obind hT
        refine r_backZ F hS (r_runV (k := 191) (N := 68) (T := T1) (As := [vI (M.1 206 v2_)]) F hS (show 191 < 231 by decide) (show shK 191 = 5 from rfl) rfl (c_MO_works l F.2.2.1 M (M.1 206 v2_) i20 _ hq21) gs_MO_398 hd_MO_works ⟨Nat.le_of_ble_eq_true rfl, Nat.le_of_ble_eq_true rfl⟩ rfl hl.1 (Nat.le_of_ble_eq_true rfl) ⟨Nat.zero_le _, Nat.zero_le _⟩ rfl d_MO_goes_39) (fun H locs hS h22 => ?_)
        refine r_if_ne (tgt := 96) F.hx F.hb (inr_z h22) d_MO_goes_42 (by decide) (fun c23 => ?_) (fun c23 => ?_)
        · replace hT := (if_neg c23).symm.trans hT
          exact k_MO_goes_L96 l hlo x1 hx1 F hlk hr (fun a0_ a1_ => t_MO_goes_L12 x1 fu a0_ a1_) ih (q21.1) v2_ hv2_ _ _ _ hS (lv_sub hl [0, 1, 2] rfl) hT
        · replace hT := (if_pos c23).symm.trans hT
          refine r_iconst F.hx F.hb d_MO_goes_45 ?_
          cases hT
          exact r_zret F hlk hr hS (Or.inl rfl) d_MO_goes_46
set_option maxHeartbeats 4000000 in
set_option maxRecDepth 100000 in
theorem c_MO_goes (l : Launch) {b n : Nat} {C : CT} (hlo : 231 ≤ n) (M : Mem) (x1 : Int) (hx1 : InR x1) (res : Mem × Int) (hT : t_MO_goes M x1 = some res) : CM l b C n 2 y_MO_goes b_MO_goes 3 (some .boolean) [.ref (b + 191), vI x1] M (QZ b C n res.1 res.2) := by
  refine CM.of (lo := 231) (ow := "WardFallsModel") (by decide) rfl (Nat.le_of_ble_eq_true rfl) hlo (fun p e s m below meth c F hlk hr hS ls hl => ?_)
  have hl : lv_has ls 3 [(0, .ref (b + 191)), (1, vI x1)] := hl
  unfold t_MO_goes at hT
  refine lv_aload_n F.hx F.hb d_MO_goes_0 rfl (lv_at hl 0 rfl) ?_
  refine r_iconst F.hx F.hb d_MO_goes_1 ?_
  refine r_putI (N := 68) (T := T1) (j := 54) F hS (show 191 < 231 by decide) (show shK 191 = 5 from rfl) (show shN 191 = 68 from rfl) rfl (Nat.le_of_ble_eq_true rfl) ing1 tyok1 nm1 rfl rfl rfl rfl rfl rfl mw_1443 (inr_c rfl) d_MO_goes_2 (fun H locs hS => ?_)
  obtain ⟨M1, eM1⟩ : ∃ q, q = (setI M 191 54 0) := ⟨_, rfl⟩
  replace hS : St b C n M1 s H locs := by rw [eM1]; exact hS
  replace hT := qlet_eq hT eM1
  refine lv_aload_n F.hx F.hb d_MO_goes_5 rfl (lv_at hl 0 rfl) ?_
  refine r_get (v := .ref (b + 203)) (N := 68) (T := T1) (j := 13) F hS (show 191 < 231 by decide) (show shK 191 = 5 from rfl) (show shN 191 = 68 from rfl) rfl (Nat.le_of_ble_eq_true rfl) ing1 mw_1402 (fv_sg rfl rfl rfl) d_MO_goes_6 ?_
  refine lv_iload_n F.hx F.hb d_MO_goes_9 rfl (lv_at hl 1 rfl) ?_
  obtain ⟨⟨g2a, g2b⟩, hT⟩ := q_guard hT
  refine r_iald F hS (show 203 < 231 by decide) (show shK 203 = 0 from rfl) (show shN 203 = 4 from rfl) hx1 g2a g2b d_MO_goes_10 ?_
  have i3 := hS.rng 203 x1
  refine lv_istore_n (lv' := [(2, vI (M1.1 203 x1)), (0, .ref (b + 191)), (1, vI x1)]) F.hx F.hb d_MO_goes_11 rfl hl (Nat.le_of_ble_eq_true rfl) rfl (fun ls hl => ?_)
  exact k_MO_goes_L12 l hlo x1 hx1 F hlk hr FU M1 (M1.1 203 x1) i3 _ _ _ hS (lv_sub hl [1, 2, 0] rfl) hT
theorem d_MO_within_0 : decode b_MO_within 0 = .ok (.aload_n 0, 1) := dc_42 (by decide +kernel)
theorem d_MO_within_1 : decode b_MO_within 1 = .ok (.iload_n 1, 1) := dc_27 (by decide +kernel)
theorem d_MO_within_2 : decode b_MO_within 2 = .ok (.invokevirtual 401, 3) := dc_182 (by decide +kernel)
theorem d_MO_within_5 : decode b_MO_within 5 = .ok (.ifCond .eq 11, 3) := dc_153 (by decide +kernel)
theorem d_MO_within_8 : decode b_MO_within 8 = .ok (.aload_n 0, 1) := dc_42 (by decide +kernel)
theorem d_MO_within_9 : decode b_MO_within 9 = .ok (.iload_n 1, 1) := dc_27 (by decide +kernel)
theorem d_MO_within_10 : decode b_MO_within 10 = .ok (.invokevirtual 404, 3) := dc_182 (by decide +kernel)
theorem d_MO_within_13 : decode b_MO_within 13 = .ok (.ifCond .ne 5, 3) := dc_154 (by decide +kernel)
theorem d_MO_within_16 : decode b_MO_within 16 = .ok (.iload_n 3, 1) := dc_29 (by decide +kernel)
theorem d_MO_within_17 : decode b_MO_within 17 = .ok (.ireturn, 1) := dc_172 (by decide +kernel)
theorem d_MO_within_18 : decode b_MO_within 18 = .ok (.lconst 0, 1) := dc_9 (by decide +kernel)
theorem d_MO_within_19 : decode b_MO_within 19 = .ok (.iload_n 2, 1) := dc_28 (by decide +kernel)
theorem d_MO_within_20 : decode b_MO_within 20 = .ok (.i2l, 1) := dc_133 (by decide +kernel)
theorem d_MO_within_21 : decode b_MO_within 21 = .ok (.aload_n 0, 1) := dc_42 (by decide +kernel)
theorem d_MO_within_22 : decode b_MO_within 22 = .ok (.getfield 109, 3) := dc_180 (by decide +kernel)
theorem d_MO_within_25 : decode b_MO_within 25 = .ok (.iconst 0, 1) := dc_3 (by decide +kernel)
theorem d_MO_within_26 : decode b_MO_within 26 = .ok (.laload, 1) := dc_47 (by decide +kernel)
theorem d_MO_within_27 : decode b_MO_within 27 = .ok (.invokestatic 407, 3) := dc_184 (by decide +kernel)
theorem d_MO_within_30 : decode b_MO_within 30 = .ok (.invokestatic 411, 3) := dc_184 (by decide +kernel)
theorem d_MO_within_33 : decode b_MO_within 33 = .ok (.l2i, 1) := dc_136 (by decide +kernel)
theorem d_MO_within_34 : decode b_MO_within 34 = .ok (.ireturn, 1) := dc_172 (by decide +kernel)
def t_MO_within (M : Mem) (x1 : Int) (x2 : Int) (x3 : Int) : Option (Mem × Int) := (obind (t_MO_hasLaw M x1) fun q1 => (if q1 = 0 then (some (M, x3)) else (obind (t_MO_goes M x1) fun q4 => (if (q4.2) = 0 then (some ((q4.1), x3)) else (some ((q4.1), (q_l2i (q_maxl 0 (q_minl (q_i2l x2) ((q4.1).2 221 0))))))))))
set_option maxHeartbeats 4000000 in
set_option maxRecDepth 100000 in
theorem c_MO_within (l : Launch) {b n : Nat} {C : CT} (hlo : 231 ≤ n) (M : Mem) (x1 : Int) (x2 : Int) (x3 : Int) (hx1 : InR x1) (hx2 : InR x2) (hx3 : InR x3) (res : Mem × Int) (hT : t_MO_within M x1 x2 x3 = some res) : CM l b C n 3 y_MO_within b_MO_within 4 (some .int) [.ref (b + 191), vI x1, vI x2, vI x3] M (QI b C n res.1 res.2) := by
  refine CM.of (lo := 231) (ow := "WardFallsModel") (by decide) rfl (Nat.le_of_ble_eq_true rfl) hlo (fun p e s m below meth c F hlk hr hS ls hl => ?_)
  have hl : lv_has ls 4 [(0, .ref (b + 191)), (1, vI x1), (2, vI x2), (3, vI x3)] := hl
  unfold t_MO_within at hT
  refine lv_aload_n F.hx F.hb d_MO_within_0 rfl (lv_at hl 0 rfl) ?_
  refine lv_iload_n F.hx F.hb d_MO_within_1 rfl (lv_at hl 1 rfl) ?_
  obtain ⟨q1, hq1, hT⟩ := q_obind hT
  refine r_backZ F hS (r_runV (k := 191) (N := 68) (T := T1) (As := [vI x1]) F hS (show 191 < 231 by decide) (show shK 191 = 5 from rfl) rfl (c_MO_hasLaw l F.2.2.1 M x1 hx1 _ hq1) gs_MO_401 hd_MO_hasLaw ⟨Nat.le_of_ble_eq_true rfl, Nat.le_of_ble_eq_true rfl⟩ rfl hl.1 (Nat.le_of_ble_eq_true rfl) ⟨Nat.zero_le _, Nat.zero_le _⟩ rfl d_MO_within_2) (fun H locs hS h2 => ?_)
  refine r_if_eq (tgt := 16) F.hx F.hb (inr_z h2) d_MO_within_5 (by decide) (fun c3 => ?_) (fun c3 => ?_)
  · replace hT := (if_pos c3).symm.trans hT
    refine lv_iload_n F.hx F.hb d_MO_within_16 rfl (lv_at hl 3 rfl) ?_
    cases hT
    exact r_iret F hlk hr rfl hS hx3 d_MO_within_17
  · replace hT := (if_neg c3).symm.trans hT
    refine lv_aload_n F.hx F.hb d_MO_within_8 rfl (lv_at hl 0 rfl) ?_
    refine lv_iload_n F.hx F.hb d_MO_within_9 rfl (lv_at hl 1 rfl) ?_
    obtain ⟨q4, hq4, hT⟩ := q_obind hT
    refine r_backZ F hS (r_runV (k := 191) (N := 68) (T := T1) (As := [vI x1]) F hS (show 191 < 231 by decide) (show shK 191 = 5 from rfl) rfl (c_MO_goes l F.2.2.1 M x1 hx1 _ hq4) gs_MO_404 hd_MO_goes ⟨Nat.le_of_ble_eq_true rfl, Nat.le_of_ble_eq_true rfl⟩ rfl hl.1 (Nat.le_of_ble_eq_true rfl) ⟨Nat.zero_le _, Nat.zero_le _⟩ rfl d_MO_within_10) (fun H locs hS h5 => ?_)
    refine r_if_ne (tgt := 18) F.hx F.hb (inr_z h5) d_MO_within_13 (by decide) (fun c6 => ?_) (fun c6 => ?_)
    · replace hT := (if_neg c6).symm.trans hT
      refine lv_lconst (v := 0) F.hx F.hb d_MO_within_18 rfl ?_
      refine lv_iload_n F.hx F.hb d_MO_within_19 rfl (lv_at hl 2 rfl) ?_
      refine r_i2l F.hx F.hb d_MO_within_20 ?_
      refine lv_aload_n F.hx F.hb d_MO_within_21 rfl (lv_at hl 0 rfl) ?_
      refine r_get (v := .ref (b + 221)) (N := 68) (T := T1) (j := 53) F hS (show 191 < 231 by decide) (show shK 191 = 5 from rfl) (show shN 191 = 68 from rfl) rfl (Nat.le_of_ble_eq_true rfl) ing1 mw_1442 (fv_sg rfl rfl rfl) d_MO_within_22 ?_
      refine r_iconst F.hx F.hb d_MO_within_25 ?_
      refine r_lald F hS (show 221 < 231 by decide) (show shK 221 = 2 from rfl) (show shN 221 = 64 from rfl) (inr_c rfl) (by omega) (by omega) d_MO_within_26 ?_
      refine r_mminl F hl.1 mw_1841 mw_923 mw_14 mw_924 ⟨Nat.le_of_ble_eq_true rfl, Nat.le_of_ble_eq_true rfl⟩ (Nat.le_of_ble_eq_true rfl) ⟨Nat.zero_le _, Nat.zero_le _⟩ d_MO_within_27 ?_
      refine r_mmaxl F hl.1 mw_1842 mw_926 mw_14 mw_927 ⟨Nat.le_of_ble_eq_true rfl, Nat.le_of_ble_eq_true rfl⟩ (Nat.le_of_ble_eq_true rfl) ⟨Nat.zero_le _, Nat.zero_le _⟩ d_MO_within_30 ?_
      refine r_l2i F.hx F.hb d_MO_within_33 ?_
      have hz := q_inr_l2i (q_maxl 0 (q_minl (q_i2l x2) (q4.1.2 221 0)))
      generalize q_l2i (q_maxl 0 (q_minl (q_i2l x2) (q4.1.2 221 0))) = z at hT hz ⊢
      cases hT
      exact r_iret F hlk hr rfl hS hz d_MO_within_34
    · replace hT := (if_pos c6).symm.trans hT
      refine lv_iload_n F.hx F.hb d_MO_within_16 rfl (lv_at hl 3 rfl) ?_
      cases hT
      exact r_iret F hlk hr rfl hS hx3 d_MO_within_17
theorem d_MO_joyOf_0 : decode b_MO_joyOf 0 = .ok (.aload_n 0, 1) := dc_42 (by decide +kernel)
theorem d_MO_joyOf_1 : decode b_MO_joyOf 1 = .ok (.iload_n 1, 1) := dc_27 (by decide +kernel)
theorem d_MO_joyOf_2 : decode b_MO_joyOf 2 = .ok (.iload_n 2, 1) := dc_28 (by decide +kernel)
theorem d_MO_joyOf_3 : decode b_MO_joyOf 3 = .ok (.invokevirtual 417, 3) := dc_182 (by decide +kernel)
theorem d_MO_joyOf_6 : decode b_MO_joyOf 6 = .ok (.aload_n 0, 1) := dc_42 (by decide +kernel)
theorem d_MO_joyOf_7 : decode b_MO_joyOf 7 = .ok (.iconst 1, 1) := dc_4 (by decide +kernel)
theorem d_MO_joyOf_8 : decode b_MO_joyOf 8 = .ok (.sipush 9999, 3) := dc_17 (by decide +kernel)
theorem d_MO_joyOf_11 : decode b_MO_joyOf 11 = .ok (.aload_n 0, 1) := dc_42 (by decide +kernel)
theorem d_MO_joyOf_12 : decode b_MO_joyOf 12 = .ok (.getfield 106, 3) := dc_180 (by decide +kernel)
theorem d_MO_joyOf_15 : decode b_MO_joyOf 15 = .ok (.iconst 3, 1) := dc_6 (by decide +kernel)
theorem d_MO_joyOf_16 : decode b_MO_joyOf 16 = .ok (.laload, 1) := dc_47 (by decide +kernel)
theorem d_MO_joyOf_17 : decode b_MO_joyOf 17 = .ok (.l2i, 1) := dc_136 (by decide +kernel)
theorem d_MO_joyOf_18 : decode b_MO_joyOf 18 = .ok (.invokevirtual 420, 3) := dc_182 (by decide +kernel)
theorem d_MO_joyOf_21 : decode b_MO_joyOf 21 = .ok (.ireturn, 1) := dc_172 (by decide +kernel)
def t_MO_joyOf (M : Mem) (x1 : Int) (x2 : Int) : Option (Mem × Int) := (obind (t_MO_callsJoy M x1 x2) fun q1 => (obind (t_MO_within q1 1 9999 (q_l2i (q1.2 220 3))) fun q3 => (some ((q3.1), (q3.2)))))
set_option maxHeartbeats 4000000 in
set_option maxRecDepth 100000 in
theorem c_MO_joyOf (l : Launch) {b n : Nat} {C : CT} (hlo : 231 ≤ n) (M : Mem) (x1 : Int) (x2 : Int) (hx1 : InR x1) (hx2 : InR x2) (res : Mem × Int) (hT : t_MO_joyOf M x1 x2 = some res) : CM l b C n 4 y_MO_joyOf b_MO_joyOf 3 (some .int) [.ref (b + 191), vI x1, vI x2] M (QI b C n res.1 res.2) := by
  refine CM.of (lo := 231) (ow := "WardFallsModel") (by decide) rfl (Nat.le_of_ble_eq_true rfl) hlo (fun p e s m below meth c F hlk hr hS ls hl => ?_)
  have hl : lv_has ls 3 [(0, .ref (b + 191)), (1, vI x1), (2, vI x2)] := hl
  unfold t_MO_joyOf at hT
  refine lv_aload_n F.hx F.hb d_MO_joyOf_0 rfl (lv_at hl 0 rfl) ?_
  refine lv_iload_n F.hx F.hb d_MO_joyOf_1 rfl (lv_at hl 1 rfl) ?_
  refine lv_iload_n F.hx F.hb d_MO_joyOf_2 rfl (lv_at hl 2 rfl) ?_
  obtain ⟨q1, hq1, hT⟩ := q_obind hT
  refine r_backV F hS (r_runV (k := 191) (N := 68) (T := T1) (As := [vI x1, vI x2]) F hS (show 191 < 231 by decide) (show shK 191 = 5 from rfl) rfl (c_MO_callsJoy l F.2.2.1 M x1 x2 hx1 hx2 _ hq1) gs_MO_417 hd_MO_callsJoy ⟨Nat.le_of_ble_eq_true rfl, Nat.le_of_ble_eq_true rfl⟩ rfl hl.1 (Nat.le_of_ble_eq_true rfl) ⟨Nat.zero_le _, Nat.zero_le _⟩ rfl d_MO_joyOf_3) (fun H locs hS => ?_)
  refine lv_aload_n F.hx F.hb d_MO_joyOf_6 rfl (lv_at hl 0 rfl) ?_
  refine r_iconst F.hx F.hb d_MO_joyOf_7 ?_
  refine r_sipush F.hx F.hb d_MO_joyOf_8 rfl ?_
  refine lv_aload_n F.hx F.hb d_MO_joyOf_11 rfl (lv_at hl 0 rfl) ?_
  refine r_get (v := .ref (b + 220)) (N := 68) (T := T1) (j := 52) F hS (show 191 < 231 by decide) (show shK 191 = 5 from rfl) (show shN 191 = 68 from rfl) rfl (Nat.le_of_ble_eq_true rfl) ing1 mw_1441 (fv_sg rfl rfl rfl) d_MO_joyOf_12 ?_
  refine r_iconst F.hx F.hb d_MO_joyOf_15 ?_
  refine r_lald F hS (show 220 < 231 by decide) (show shK 220 = 2 from rfl) (show shN 220 = 7 from rfl) (inr_c rfl) (by omega) (by omega) d_MO_joyOf_16 ?_
  refine r_l2i F.hx F.hb d_MO_joyOf_17 ?_
  obtain ⟨q3, hq3, hT⟩ := q_obind hT
  refine r_backI F hS (r_runV (k := 191) (N := 68) (T := T1) (As := [vI 1, vI 9999, vI (q_l2i (q1.2 220 3))]) F hS (show 191 < 231 by decide) (show shK 191 = 5 from rfl) rfl (c_MO_within l F.2.2.1 q1 1 9999 (q_l2i (q1.2 220 3)) (inr_c rfl) (inr_c rfl) (q_inr_toInt _) _ hq3) gs_MO_420 hd_MO_within ⟨Nat.le_of_ble_eq_true rfl, Nat.le_of_ble_eq_true rfl⟩ rfl hl.1 (Nat.le_of_ble_eq_true rfl) ⟨Nat.zero_le _, Nat.zero_le _⟩ rfl d_MO_joyOf_18) (fun H locs hS h4 => ?_)
  cases hT
  exact r_iret F hlk hr rfl hS h4 d_MO_joyOf_21
theorem d_MO_ward_0 : decode b_MO_ward 0 = .ok (.aload_n 0, 1) := dc_42 (by decide +kernel)
theorem d_MO_ward_1 : decode b_MO_ward 1 = .ok (.iconst 0, 1) := dc_3 (by decide +kernel)
theorem d_MO_ward_2 : decode b_MO_ward 2 = .ok (.putfield 145, 3) := dc_181 (by decide +kernel)
theorem d_MO_ward_5 : decode b_MO_ward 5 = .ok (.aload_n 0, 1) := dc_42 (by decide +kernel)
theorem d_MO_ward_6 : decode b_MO_ward 6 = .ok (.iload_n 1, 1) := dc_27 (by decide +kernel)
theorem d_MO_ward_7 : decode b_MO_ward 7 = .ok (.invokevirtual 369, 3) := dc_182 (by decide +kernel)
theorem d_MO_ward_10 : decode b_MO_ward 10 = .ok (.ifCond .ne 5, 3) := dc_154 (by decide +kernel)
theorem d_MO_ward_13 : decode b_MO_ward 13 = .ok (.iconst (-1), 1) := dc_2 (by decide +kernel)
theorem d_MO_ward_14 : decode b_MO_ward 14 = .ok (.ireturn, 1) := dc_172 (by decide +kernel)
theorem d_MO_ward_15 : decode b_MO_ward 15 = .ok (.iload_n 2, 1) := dc_28 (by decide +kernel)
theorem d_MO_ward_16 : decode b_MO_ward 16 = .ok (.tableswitch 59 0 3 #[32, 39, 46, 52], 32) := by decide +kernel
theorem d_MO_ward_48 : decode b_MO_ward 48 = .ok (.aload_n 0, 1) := dc_42 (by decide +kernel)
theorem d_MO_ward_49 : decode b_MO_ward 49 = .ok (.getfield 76, 3) := dc_180 (by decide +kernel)
theorem d_MO_ward_52 : decode b_MO_ward 52 = .ok (.iload_n 1, 1) := dc_27 (by decide +kernel)
theorem d_MO_ward_53 : decode b_MO_ward 53 = .ok (.iaload, 1) := dc_46 (by decide +kernel)
theorem d_MO_ward_54 : decode b_MO_ward 54 = .ok (.ireturn, 1) := dc_172 (by decide +kernel)
theorem d_MO_ward_55 : decode b_MO_ward 55 = .ok (.aload_n 0, 1) := dc_42 (by decide +kernel)
theorem d_MO_ward_56 : decode b_MO_ward 56 = .ok (.getfield 22, 3) := dc_180 (by decide +kernel)
theorem d_MO_ward_59 : decode b_MO_ward 59 = .ok (.iload_n 1, 1) := dc_27 (by decide +kernel)
theorem d_MO_ward_60 : decode b_MO_ward 60 = .ok (.iaload, 1) := dc_46 (by decide +kernel)
theorem d_MO_ward_61 : decode b_MO_ward 61 = .ok (.ireturn, 1) := dc_172 (by decide +kernel)
theorem d_MO_ward_62 : decode b_MO_ward 62 = .ok (.aload_n 0, 1) := dc_42 (by decide +kernel)
theorem d_MO_ward_63 : decode b_MO_ward 63 = .ok (.iload_n 1, 1) := dc_27 (by decide +kernel)
theorem d_MO_ward_64 : decode b_MO_ward 64 = .ok (.invokevirtual 372, 3) := dc_182 (by decide +kernel)
theorem d_MO_ward_67 : decode b_MO_ward 67 = .ok (.ireturn, 1) := dc_172 (by decide +kernel)
theorem d_MO_ward_68 : decode b_MO_ward 68 = .ok (.aload_n 0, 1) := dc_42 (by decide +kernel)
theorem d_MO_ward_69 : decode b_MO_ward 69 = .ok (.iconst 0, 1) := dc_3 (by decide +kernel)
theorem d_MO_ward_70 : decode b_MO_ward 70 = .ok (.iload_n 1, 1) := dc_27 (by decide +kernel)
theorem d_MO_ward_71 : decode b_MO_ward 71 = .ok (.invokevirtual 375, 3) := dc_182 (by decide +kernel)
theorem d_MO_ward_74 : decode b_MO_ward 74 = .ok (.ireturn, 1) := dc_172 (by decide +kernel)
theorem d_MO_ward_75 : decode b_MO_ward 75 = .ok (.iconst (-1), 1) := dc_2 (by decide +kernel)
theorem d_MO_ward_76 : decode b_MO_ward 76 = .ok (.ireturn, 1) := dc_172 (by decide +kernel)
def t_MO_ward (M : Mem) (x1 : Int) (x2 : Int) : Option (Mem × Int) := (qlet (setI M 191 0 0) fun M1 => (qlet (t_MO_isWard M1 x1) fun q2 => (if q2 = 0 then (some (M1, (-1))) else (if x2 = 0 then (qguard (0 ≤ x1 ∧ x1 < 92) (some (M1, (M1.1 212 x1)))) else (if x2 = 1 then (qguard (0 ≤ x1 ∧ x1 < 8) (some (M1, (M1.1 196 x1)))) else (if x2 = 2 then (obind (t_MO_sizeOf M1 x1) fun q12 => (some (M1, q12))) else (if x2 = 3 then (obind (t_MO_joyOf M1 0 x1) fun q15 => (some ((q15.1), (q15.2)))) else (some (M1, (-1))))))))))
set_option maxHeartbeats 4000000 in
set_option maxRecDepth 100000 in
theorem c_MO_ward (l : Launch) {b n : Nat} {C : CT} (hlo : 231 ≤ n) (M : Mem) (x1 : Int) (x2 : Int) (hx1 : InR x1) (hx2 : InR x2) (res : Mem × Int) (hT : t_MO_ward M x1 x2 = some res) : CM l b C n 5 y_MO_ward b_MO_ward 3 (some .int) [.ref (b + 191), vI x1, vI x2] M (QI b C n res.1 res.2) := by
  refine CM.of (lo := 231) (ow := "WardFallsModel") (by decide) rfl (Nat.le_of_ble_eq_true rfl) hlo (fun p e s m below meth c F hlk hr hS ls hl => ?_)
  have hl : lv_has ls 3 [(0, .ref (b + 191)), (1, vI x1), (2, vI x2)] := hl
  unfold t_MO_ward at hT
  refine lv_aload_n F.hx F.hb d_MO_ward_0 rfl (lv_at hl 0 rfl) ?_
  refine r_iconst F.hx F.hb d_MO_ward_1 ?_
  refine r_putI (N := 68) (T := T1) (j := 0) F hS (show 191 < 231 by decide) (show shK 191 = 5 from rfl) (show shN 191 = 68 from rfl) rfl (Nat.le_of_ble_eq_true rfl) ing1 tyok1 nm1 rfl rfl rfl rfl rfl rfl mw_1389 (inr_c rfl) d_MO_ward_2 (fun H locs hS => ?_)
  obtain ⟨M1, eM1⟩ : ∃ q, q = (setI M 191 0 0) := ⟨_, rfl⟩
  replace hS : St b C n M1 s H locs := by rw [eM1]; exact hS
  replace hT := qlet_eq hT eM1
  refine lv_aload_n F.hx F.hb d_MO_ward_5 rfl (lv_at hl 0 rfl) ?_
  refine lv_iload_n F.hx F.hb d_MO_ward_6 rfl (lv_at hl 1 rfl) ?_
  obtain ⟨q2, hq2⟩ : ∃ q, q = (t_MO_isWard M1 x1) := ⟨_, rfl⟩
  replace hT := qlet_eq hT hq2
  refine r_backZ F hS (r_runV (k := 191) (N := 68) (T := T1) (As := [vI x1]) F hS (show 191 < 231 by decide) (show shK 191 = 5 from rfl) rfl (c_MO_isWard l F.2.2.1 M1 x1 hx1 _ hq2.symm) gs_MO_369 hd_MO_isWard ⟨Nat.le_of_ble_eq_true rfl, Nat.le_of_ble_eq_true rfl⟩ rfl hl.1 (Nat.le_of_ble_eq_true rfl) ⟨Nat.zero_le _, Nat.zero_le _⟩ rfl d_MO_ward_7) (fun H locs hS h3 => ?_)
  refine r_if_ne (tgt := 15) F.hx F.hb (inr_z h3) d_MO_ward_10 (by decide) (fun c4 => ?_) (fun c4 => ?_)
  · replace hT := (if_neg c4).symm.trans hT
    refine lv_iload_n F.hx F.hb d_MO_ward_15 rfl (lv_at hl 2 rfl) ?_
    rcases q_ite hT with ⟨c5, hT⟩ | ⟨c5, hT⟩
    · refine r_tableIn (i := 0) (tgt := 48) F.hx F.hb hx2 c5 d_MO_ward_16 (by decide) (by decide) rfl (by decide) ?_
      refine lv_aload_n F.hx F.hb d_MO_ward_48 rfl (lv_at hl 0 rfl) ?_
      refine r_get (v := .ref (b + 212)) (N := 68) (T := T1) (j := 35) F hS (show 191 < 231 by decide) (show shK 191 = 5 from rfl) (show shN 191 = 68 from rfl) rfl (Nat.le_of_ble_eq_true rfl) ing1 mw_1424 (fv_sg rfl rfl rfl) d_MO_ward_49 ?_
      refine lv_iload_n F.hx F.hb d_MO_ward_52 rfl (lv_at hl 1 rfl) ?_
      obtain ⟨⟨g6a, g6b⟩, hT⟩ := q_guard hT
      refine r_iald F hS (show 212 < 231 by decide) (show shK 212 = 0 from rfl) (show shN 212 = 92 from rfl) hx1 g6a g6b d_MO_ward_53 ?_
      have i7 := hS.rng 212 x1
      cases hT
      exact r_iret F hlk hr rfl hS i7 d_MO_ward_54
    ·
      rcases q_ite hT with ⟨c8, hT⟩ | ⟨c8, hT⟩
      · refine r_tableIn (i := 1) (tgt := 55) F.hx F.hb hx2 c8 d_MO_ward_16 (by decide) (by decide) rfl (by decide) ?_
        refine lv_aload_n F.hx F.hb d_MO_ward_55 rfl (lv_at hl 0 rfl) ?_
        refine r_get (v := .ref (b + 196)) (N := 68) (T := T1) (j := 6) F hS (show 191 < 231 by decide) (show shK 191 = 5 from rfl) (show shN 191 = 68 from rfl) rfl (Nat.le_of_ble_eq_true rfl) ing1 mw_1395 (fv_sg rfl rfl rfl) d_MO_ward_56 ?_
        refine lv_iload_n F.hx F.hb d_MO_ward_59 rfl (lv_at hl 1 rfl) ?_
        obtain ⟨⟨g9a, g9b⟩, hT⟩ := q_guard hT
        refine r_iald F hS (show 196 < 231 by decide) (show shK 196 = 0 from rfl) (show shN 196 = 8 from rfl) hx1 g9a g9b d_MO_ward_60 ?_
        have i10 := hS.rng 196 x1
        cases hT
        exact r_iret F hlk hr rfl hS i10 d_MO_ward_61
      ·
        rcases q_ite hT with ⟨c11, hT⟩ | ⟨c11, hT⟩
        · refine r_tableIn (i := 2) (tgt := 62) F.hx F.hb hx2 c11 d_MO_ward_16 (by decide) (by decide) rfl (by decide) ?_
          refine lv_aload_n F.hx F.hb d_MO_ward_62 rfl (lv_at hl 0 rfl) ?_
          refine lv_iload_n F.hx F.hb d_MO_ward_63 rfl (lv_at hl 1 rfl) ?_
          obtain ⟨q12, hq12, hT⟩ := q_obind hT
          refine r_backI F hS (r_runV (k := 191) (N := 68) (T := T1) (As := [vI x1]) F hS (show 191 < 231 by decide) (show shK 191 = 5 from rfl) rfl (c_MO_sizeOf l F.2.2.1 M1 x1 hx1 _ hq12) gs_MO_372 hd_MO_sizeOf ⟨Nat.le_of_ble_eq_true rfl, Nat.le_of_ble_eq_true rfl⟩ rfl hl.1 (Nat.le_of_ble_eq_true rfl) ⟨Nat.zero_le _, Nat.zero_le _⟩ rfl d_MO_ward_64) (fun H locs hS h13 => ?_)
          cases hT
          exact r_iret F hlk hr rfl hS h13 d_MO_ward_67
        ·
          rcases q_ite hT with ⟨c14, hT⟩ | ⟨c14, hT⟩
          · refine r_tableIn (i := 3) (tgt := 68) F.hx F.hb hx2 c14 d_MO_ward_16 (by decide) (by decide) rfl (by decide) ?_
            refine lv_aload_n F.hx F.hb d_MO_ward_68 rfl (lv_at hl 0 rfl) ?_
            refine r_iconst F.hx F.hb d_MO_ward_69 ?_
            refine lv_iload_n F.hx F.hb d_MO_ward_70 rfl (lv_at hl 1 rfl) ?_
            obtain ⟨q15, hq15, hT⟩ := q_obind hT
            refine r_backI F hS (r_runV (k := 191) (N := 68) (T := T1) (As := [vI 0, vI x1]) F hS (show 191 < 231 by decide) (show shK 191 = 5 from rfl) rfl (c_MO_joyOf l F.2.2.1 M1 0 x1 (inr_c rfl) hx1 _ hq15) gs_MO_375 hd_MO_joyOf ⟨Nat.le_of_ble_eq_true rfl, Nat.le_of_ble_eq_true rfl⟩ rfl hl.1 (Nat.le_of_ble_eq_true rfl) ⟨Nat.zero_le _, Nat.zero_le _⟩ rfl d_MO_ward_71) (fun H locs hS h16 => ?_)
            cases hT
            exact r_iret F hlk hr rfl hS h16 d_MO_ward_74
          ·
            refine r_tableOut (tgt := 75) F.hx F.hb hx2 (by omega) d_MO_ward_16 (by decide) ?_
            refine r_iconst F.hx F.hb d_MO_ward_75 ?_
            cases hT
            exact r_iret F hlk hr rfl hS (inr_c rfl) d_MO_ward_76
  · replace hT := (if_pos c4).symm.trans hT
    refine r_iconst F.hx F.hb d_MO_ward_13 ?_
    cases hT
    exact r_iret F hlk hr rfl hS (inr_c rfl) d_MO_ward_14
